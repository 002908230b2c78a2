theorem d_Reader_append_0 : decode b_Reader_append 0 = .ok (.iload_n 1, 1) := by decide +kernel
theorem d_Reader_append_1 : decode b_Reader_append 1 = .ok (.ifCond .lt 18, 3) := by decide +kernel
theorem d_Reader_append_19 : decode b_Reader_append 19 = .ok (.iconst 0, 1) := by decide +kernel
theorem d_Reader_append_20 : decode b_Reader_append 20 = .ok (.ireturn, 1) := by decide +kernel
theorem d_Reader_append_4 : decode b_Reader_append 4 = .ok (.iload_n 1, 1) := by decide +kernel
theorem d_Reader_append_5 : decode b_Reader_append 5 = .ok (.bipush 64, 2) := by decide +kernel
theorem d_Reader_append_7 : decode b_Reader_append 7 = .ok (.if_icmp .ge 12, 3) := by decide +kernel
theorem d_Reader_append_10 : decode b_Reader_append 10 = .ok (.aload_n 0, 1) := by decide +kernel
theorem d_Reader_append_11 : decode b_Reader_append 11 = .ok (.getfield 22, 3) := by decide +kernel
theorem d_Reader_append_14 : decode b_Reader_append 14 = .ok (.bipush 100, 2) := by decide +kernel
theorem d_Reader_append_16 : decode b_Reader_append 16 = .ok (.if_icmp .lt 5, 3) := by decide +kernel
theorem d_Reader_append_21 : decode b_Reader_append 21 = .ok (.aload_n 0, 1) := by decide +kernel
theorem d_Reader_append_22 : decode b_Reader_append 22 = .ok (.getfield 9, 3) := by decide +kernel
theorem d_Reader_append_25 : decode b_Reader_append 25 = .ok (.aload_n 0, 1) := by decide +kernel
theorem d_Reader_append_26 : decode b_Reader_append 26 = .ok (.getfield 22, 3) := by decide +kernel
theorem d_Reader_append_29 : decode b_Reader_append 29 = .ok (.iload_n 1, 1) := by decide +kernel
theorem d_Reader_append_30 : decode b_Reader_append 30 = .ok (.iastore, 1) := by decide +kernel
theorem d_Reader_append_31 : decode b_Reader_append 31 = .ok (.aload_n 0, 1) := by decide +kernel
theorem d_Reader_append_32 : decode b_Reader_append 32 = .ok (.dup, 1) := by decide +kernel
theorem d_Reader_append_33 : decode b_Reader_append 33 = .ok (.getfield 22, 3) := by decide +kernel
theorem d_Reader_append_36 : decode b_Reader_append 36 = .ok (.iconst 1, 1) := by decide +kernel
theorem d_Reader_append_37 : decode b_Reader_append 37 = .ok (.iadd, 1) := by decide +kernel
theorem d_Reader_append_38 : decode b_Reader_append 38 = .ok (.putfield 22, 3) := by decide +kernel
theorem d_Reader_append_41 : decode b_Reader_append 41 = .ok (.iconst 1, 1) := by decide +kernel
theorem d_Reader_append_42 : decode b_Reader_append 42 = .ok (.ireturn, 1) := by decide +kernel
theorem d_RangeTeller_feed_0 : decode b_RangeTeller_feed 0 = .ok (.aload_n 0, 1) := by decide +kernel
theorem d_RangeTeller_feed_1 : decode b_RangeTeller_feed 1 = .ok (.getfield 21, 3) := by decide +kernel
theorem d_RangeTeller_feed_4 : decode b_RangeTeller_feed 4 = .ok (.iload_n 1, 1) := by decide +kernel
theorem d_RangeTeller_feed_5 : decode b_RangeTeller_feed 5 = .ok (.invokevirtual 54, 3) := by decide +kernel
theorem d_RangeTeller_feed_8 : decode b_RangeTeller_feed 8 = .ok (.ireturn, 1) := by decide +kernel
theorem d_Runner_forget_0 : decode b_Runner_forget 0 = .ok (.aload_n 0, 1) := by decide +kernel
theorem d_Runner_forget_1 : decode b_Runner_forget 1 = .ok (.iconst 0, 1) := by decide +kernel
theorem d_Runner_forget_2 : decode b_Runner_forget 2 = .ok (.putfield 37, 3) := by decide +kernel
theorem d_Runner_forget_5 : decode b_Runner_forget 5 = .ok (.return_, 1) := by decide +kernel
theorem d_Program_clear_0 : decode b_Program_clear 0 = .ok (.aload_n 0, 1) := by decide +kernel
theorem d_Program_clear_1 : decode b_Program_clear 1 = .ok (.iconst 0, 1) := by decide +kernel
theorem d_Program_clear_2 : decode b_Program_clear 2 = .ok (.putfield 48, 3) := by decide +kernel
theorem d_Program_clear_5 : decode b_Program_clear 5 = .ok (.aload_n 0, 1) := by decide +kernel
theorem d_Program_clear_6 : decode b_Program_clear 6 = .ok (.iconst 0, 1) := by decide +kernel
theorem d_Program_clear_7 : decode b_Program_clear 7 = .ok (.putfield 52, 3) := by decide +kernel
theorem d_Program_clear_10 : decode b_Program_clear 10 = .ok (.return_, 1) := by decide +kernel
theorem d_Reader_readNumber_129 : decode b_Reader_readNumber 129 = .ok (.aload_n 0, 1) := by decide +kernel
theorem d_Reader_readNumber_130 : decode b_Reader_readNumber 130 = .ok (.aload_n 0, 1) := by decide +kernel
theorem d_Reader_readNumber_131 : decode b_Reader_readNumber 131 = .ok (.getfield 31, 3) := by decide +kernel
theorem d_Reader_readNumber_134 : decode b_Reader_readNumber 134 = .ok (.iconst 1, 1) := by decide +kernel
theorem d_Reader_readNumber_135 : decode b_Reader_readNumber 135 = .ok (.isub, 1) := by decide +kernel
theorem d_Reader_readNumber_136 : decode b_Reader_readNumber 136 = .ok (.putfield 34, 3) := by decide +kernel
theorem d_Reader_readNumber_139 : decode b_Reader_readNumber 139 = .ok (.iconst 0, 1) := by decide +kernel
theorem d_Reader_readNumber_140 : decode b_Reader_readNumber 140 = .ok (.ireturn, 1) := by decide +kernel
theorem d_Reader_readNumber_119 : decode b_Reader_readNumber 119 = .ok (.iload_n 3, 1) := by decide +kernel
theorem d_Reader_readNumber_120 : decode b_Reader_readNumber 120 = .ok (.iload_n 1, 1) := by decide +kernel
theorem d_Reader_readNumber_121 : decode b_Reader_readNumber 121 = .ok (.if_icmp .lt 8, 3) := by decide +kernel
theorem d_Reader_readNumber_124 : decode b_Reader_readNumber 124 = .ok (.iload_n 3, 1) := by decide +kernel
theorem d_Reader_readNumber_125 : decode b_Reader_readNumber 125 = .ok (.iload_n 2, 1) := by decide +kernel
theorem d_Reader_readNumber_126 : decode b_Reader_readNumber 126 = .ok (.if_icmp .le 15, 3) := by decide +kernel
theorem d_Reader_readNumber_141 : decode b_Reader_readNumber 141 = .ok (.iload_n 3, 1) := by decide +kernel
theorem d_Reader_readNumber_142 : decode b_Reader_readNumber 142 = .ok (.ireturn, 1) := by decide +kernel
theorem d_Reader_readNumber_82 : decode b_Reader_readNumber 82 = .ok (.aload_n 0, 1) := by decide +kernel
theorem d_Reader_readNumber_83 : decode b_Reader_readNumber 83 = .ok (.aload_n 0, 1) := by decide +kernel
theorem d_Reader_readNumber_84 : decode b_Reader_readNumber 84 = .ok (.getfield 31, 3) := by decide +kernel
theorem d_Reader_readNumber_87 : decode b_Reader_readNumber 87 = .ok (.putfield 34, 3) := by decide +kernel
theorem d_Reader_readNumber_90 : decode b_Reader_readNumber 90 = .ok (.iconst 0, 1) := by decide +kernel
theorem d_Reader_readNumber_91 : decode b_Reader_readNumber 91 = .ok (.ireturn, 1) := by decide +kernel
theorem d_Reader_readNumber_0 : decode b_Reader_readNumber 0 = .ok (.aload_n 0, 1) := by decide +kernel
theorem d_Reader_readNumber_1 : decode b_Reader_readNumber 1 = .ok (.getfield 34, 3) := by decide +kernel
theorem d_Reader_readNumber_4 : decode b_Reader_readNumber 4 = .ok (.bipush (-3), 2) := by decide +kernel
theorem d_Reader_readNumber_6 : decode b_Reader_readNumber 6 = .ok (.if_icmp .eq 5, 3) := by decide +kernel
theorem d_Reader_readNumber_11 : decode b_Reader_readNumber 11 = .ok (.aload_n 0, 1) := by decide +kernel
theorem d_Reader_readNumber_12 : decode b_Reader_readNumber 12 = .ok (.getfield 31, 3) := by decide +kernel
theorem d_Reader_readNumber_15 : decode b_Reader_readNumber 15 = .ok (.aload_n 0, 1) := by decide +kernel
theorem d_Reader_readNumber_16 : decode b_Reader_readNumber 16 = .ok (.getfield 22, 3) := by decide +kernel
theorem d_Reader_readNumber_19 : decode b_Reader_readNumber 19 = .ok (.if_icmp .lt 13, 3) := by decide +kernel
theorem d_Reader_readNumber_32 : decode b_Reader_readNumber 32 = .ok (.aload_n 0, 1) := by decide +kernel
theorem d_Reader_readNumber_33 : decode b_Reader_readNumber 33 = .ok (.getfield 9, 3) := by decide +kernel
theorem d_Reader_readNumber_36 : decode b_Reader_readNumber 36 = .ok (.aload_n 0, 1) := by decide +kernel
theorem d_Reader_readNumber_37 : decode b_Reader_readNumber 37 = .ok (.getfield 31, 3) := by decide +kernel
theorem d_Reader_readNumber_40 : decode b_Reader_readNumber 40 = .ok (.iaload, 1) := by decide +kernel
theorem d_Reader_readNumber_41 : decode b_Reader_readNumber 41 = .ok (.istore_n 3, 1) := by decide +kernel
theorem d_Reader_readNumber_42 : decode b_Reader_readNumber 42 = .ok (.aload_n 0, 1) := by decide +kernel
theorem d_Reader_readNumber_43 : decode b_Reader_readNumber 43 = .ok (.dup, 1) := by decide +kernel
theorem d_Reader_readNumber_44 : decode b_Reader_readNumber 44 = .ok (.getfield 31, 3) := by decide +kernel
theorem d_Reader_readNumber_47 : decode b_Reader_readNumber 47 = .ok (.iconst 1, 1) := by decide +kernel
theorem d_Reader_readNumber_48 : decode b_Reader_readNumber 48 = .ok (.iadd, 1) := by decide +kernel
theorem d_Reader_readNumber_49 : decode b_Reader_readNumber 49 = .ok (.putfield 31, 3) := by decide +kernel
theorem d_Reader_readNumber_52 : decode b_Reader_readNumber 52 = .ok (.iload_n 3, 1) := by decide +kernel
theorem d_Reader_readNumber_53 : decode b_Reader_readNumber 53 = .ok (.bipush 32, 2) := by decide +kernel
theorem d_Reader_readNumber_55 : decode b_Reader_readNumber 55 = .ok (.if_icmp .lt 64, 3) := by decide +kernel
theorem d_Reader_readNumber_58 : decode b_Reader_readNumber 58 = .ok (.aload_n 0, 1) := by decide +kernel
theorem d_Reader_readNumber_59 : decode b_Reader_readNumber 59 = .ok (.getfield 31, 3) := by decide +kernel
theorem d_Reader_readNumber_62 : decode b_Reader_readNumber 62 = .ok (.aload_n 0, 1) := by decide +kernel
theorem d_Reader_readNumber_63 : decode b_Reader_readNumber 63 = .ok (.getfield 22, 3) := by decide +kernel
theorem d_Reader_readNumber_66 : decode b_Reader_readNumber 66 = .ok (.if_icmp .ge 16, 3) := by decide +kernel
theorem d_Reader_readNumber_69 : decode b_Reader_readNumber 69 = .ok (.aload_n 0, 1) := by decide +kernel
theorem d_Reader_readNumber_70 : decode b_Reader_readNumber 70 = .ok (.getfield 9, 3) := by decide +kernel
theorem d_Reader_readNumber_73 : decode b_Reader_readNumber 73 = .ok (.aload_n 0, 1) := by decide +kernel
theorem d_Reader_readNumber_74 : decode b_Reader_readNumber 74 = .ok (.getfield 31, 3) := by decide +kernel
theorem d_Reader_readNumber_77 : decode b_Reader_readNumber 77 = .ok (.iaload, 1) := by decide +kernel
theorem d_Reader_readNumber_78 : decode b_Reader_readNumber 78 = .ok (.iconst 1, 1) := by decide +kernel
theorem d_Reader_readNumber_79 : decode b_Reader_readNumber 79 = .ok (.if_icmp .le 13, 3) := by decide +kernel
theorem d_Reader_readNumber_92 : decode b_Reader_readNumber 92 = .ok (.iload_n 3, 1) := by decide +kernel
theorem d_Reader_readNumber_93 : decode b_Reader_readNumber 93 = .ok (.bipush 32, 2) := by decide +kernel
theorem d_Reader_readNumber_95 : decode b_Reader_readNumber 95 = .ok (.aload_n 0, 1) := by decide +kernel
theorem d_Reader_readNumber_96 : decode b_Reader_readNumber 96 = .ok (.getfield 9, 3) := by decide +kernel
theorem d_Reader_readNumber_99 : decode b_Reader_readNumber 99 = .ok (.aload_n 0, 1) := by decide +kernel
theorem d_Reader_readNumber_100 : decode b_Reader_readNumber 100 = .ok (.getfield 31, 3) := by decide +kernel
theorem d_Reader_readNumber_103 : decode b_Reader_readNumber 103 = .ok (.iaload, 1) := by decide +kernel
theorem d_Reader_readNumber_104 : decode b_Reader_readNumber 104 = .ok (.iconst 1, 1) := by decide +kernel
theorem d_Reader_readNumber_105 : decode b_Reader_readNumber 105 = .ok (.isub, 1) := by decide +kernel
theorem d_Reader_readNumber_106 : decode b_Reader_readNumber 106 = .ok (.imul, 1) := by decide +kernel
theorem d_Reader_readNumber_107 : decode b_Reader_readNumber 107 = .ok (.iadd, 1) := by decide +kernel
theorem d_Reader_readNumber_108 : decode b_Reader_readNumber 108 = .ok (.istore_n 3, 1) := by decide +kernel
theorem d_Reader_readNumber_109 : decode b_Reader_readNumber 109 = .ok (.aload_n 0, 1) := by decide +kernel
theorem d_Reader_readNumber_110 : decode b_Reader_readNumber 110 = .ok (.dup, 1) := by decide +kernel
theorem d_Reader_readNumber_111 : decode b_Reader_readNumber 111 = .ok (.getfield 31, 3) := by decide +kernel
theorem d_Reader_readNumber_114 : decode b_Reader_readNumber 114 = .ok (.iconst 1, 1) := by decide +kernel
theorem d_Reader_readNumber_115 : decode b_Reader_readNumber 115 = .ok (.iadd, 1) := by decide +kernel
theorem d_Reader_readNumber_116 : decode b_Reader_readNumber 116 = .ok (.putfield 31, 3) := by decide +kernel
theorem d_Reader_readNumber_22 : decode b_Reader_readNumber 22 = .ok (.aload_n 0, 1) := by decide +kernel
theorem d_Reader_readNumber_23 : decode b_Reader_readNumber 23 = .ok (.aload_n 0, 1) := by decide +kernel
theorem d_Reader_readNumber_24 : decode b_Reader_readNumber 24 = .ok (.getfield 31, 3) := by decide +kernel
theorem d_Reader_readNumber_27 : decode b_Reader_readNumber 27 = .ok (.putfield 34, 3) := by decide +kernel
theorem d_Reader_readNumber_30 : decode b_Reader_readNumber 30 = .ok (.iconst 0, 1) := by decide +kernel
theorem d_Reader_readNumber_31 : decode b_Reader_readNumber 31 = .ok (.ireturn, 1) := by decide +kernel
theorem d_Reader_readNumber_9 : decode b_Reader_readNumber 9 = .ok (.iconst 0, 1) := by decide +kernel
theorem d_Reader_readNumber_10 : decode b_Reader_readNumber 10 = .ok (.ireturn, 1) := by decide +kernel
theorem d_Program_addFunction_0 : decode b_Program_addFunction 0 = .ok (.aload_n 0, 1) := by decide +kernel
theorem d_Program_addFunction_1 : decode b_Program_addFunction 1 = .ok (.getfield 36, 3) := by decide +kernel
theorem d_Program_addFunction_4 : decode b_Program_addFunction 4 = .ok (.aload_n 0, 1) := by decide +kernel
theorem d_Program_addFunction_5 : decode b_Program_addFunction 5 = .ok (.getfield 52, 3) := by decide +kernel
theorem d_Program_addFunction_8 : decode b_Program_addFunction 8 = .ok (.aload_n 0, 1) := by decide +kernel
theorem d_Program_addFunction_9 : decode b_Program_addFunction 9 = .ok (.getfield 48, 3) := by decide +kernel
theorem d_Program_addFunction_12 : decode b_Program_addFunction 12 = .ok (.iastore, 1) := by decide +kernel
theorem d_Program_addFunction_13 : decode b_Program_addFunction 13 = .ok (.aload_n 0, 1) := by decide +kernel
theorem d_Program_addFunction_14 : decode b_Program_addFunction 14 = .ok (.getfield 39, 3) := by decide +kernel
theorem d_Program_addFunction_17 : decode b_Program_addFunction 17 = .ok (.aload_n 0, 1) := by decide +kernel
theorem d_Program_addFunction_18 : decode b_Program_addFunction 18 = .ok (.getfield 52, 3) := by decide +kernel
theorem d_Program_addFunction_21 : decode b_Program_addFunction 21 = .ok (.iload_n 1, 1) := by decide +kernel
theorem d_Program_addFunction_22 : decode b_Program_addFunction 22 = .ok (.iastore, 1) := by decide +kernel
theorem d_Program_addFunction_23 : decode b_Program_addFunction 23 = .ok (.aload_n 0, 1) := by decide +kernel
theorem d_Program_addFunction_24 : decode b_Program_addFunction 24 = .ok (.getfield 42, 3) := by decide +kernel
theorem d_Program_addFunction_27 : decode b_Program_addFunction 27 = .ok (.aload_n 0, 1) := by decide +kernel
theorem d_Program_addFunction_28 : decode b_Program_addFunction 28 = .ok (.getfield 52, 3) := by decide +kernel
theorem d_Program_addFunction_31 : decode b_Program_addFunction 31 = .ok (.iload_n 2, 1) := by decide +kernel
theorem d_Program_addFunction_32 : decode b_Program_addFunction 32 = .ok (.iastore, 1) := by decide +kernel
theorem d_Program_addFunction_33 : decode b_Program_addFunction 33 = .ok (.aload_n 0, 1) := by decide +kernel
theorem d_Program_addFunction_34 : decode b_Program_addFunction 34 = .ok (.getfield 45, 3) := by decide +kernel
theorem d_Program_addFunction_37 : decode b_Program_addFunction 37 = .ok (.aload_n 0, 1) := by decide +kernel
theorem d_Program_addFunction_38 : decode b_Program_addFunction 38 = .ok (.getfield 52, 3) := by decide +kernel
theorem d_Program_addFunction_41 : decode b_Program_addFunction 41 = .ok (.iload_n 3, 1) := by decide +kernel
theorem d_Program_addFunction_42 : decode b_Program_addFunction 42 = .ok (.iastore, 1) := by decide +kernel
theorem d_Program_addFunction_43 : decode b_Program_addFunction 43 = .ok (.aload_n 0, 1) := by decide +kernel
theorem d_Program_addFunction_44 : decode b_Program_addFunction 44 = .ok (.dup, 1) := by decide +kernel
theorem d_Program_addFunction_45 : decode b_Program_addFunction 45 = .ok (.getfield 52, 3) := by decide +kernel
theorem d_Program_addFunction_48 : decode b_Program_addFunction 48 = .ok (.iconst 1, 1) := by decide +kernel
theorem d_Program_addFunction_49 : decode b_Program_addFunction 49 = .ok (.iadd, 1) := by decide +kernel
theorem d_Program_addFunction_50 : decode b_Program_addFunction 50 = .ok (.putfield 52, 3) := by decide +kernel
theorem d_Program_addFunction_53 : decode b_Program_addFunction 53 = .ok (.return_, 1) := by decide +kernel
theorem d_Ops_isOp_0 : decode b_Ops_isOp 0 = .ok (.iload_n 0, 1) := by decide +kernel
theorem d_Ops_isOp_1 : decode b_Ops_isOp 1 = .ok (.ifCond .lt 13, 3) := by decide +kernel
theorem d_Ops_isOp_14 : decode b_Ops_isOp 14 = .ok (.iconst 0, 1) := by decide +kernel
theorem d_Ops_isOp_15 : decode b_Ops_isOp 15 = .ok (.ireturn, 1) := by decide +kernel
theorem d_Ops_isOp_4 : decode b_Ops_isOp 4 = .ok (.iload_n 0, 1) := by decide +kernel
theorem d_Ops_isOp_5 : decode b_Ops_isOp 5 = .ok (.bipush 28, 2) := by decide +kernel
theorem d_Ops_isOp_7 : decode b_Ops_isOp 7 = .ok (.if_icmp .gt 7, 3) := by decide +kernel
theorem d_Ops_isOp_10 : decode b_Ops_isOp 10 = .ok (.iconst 1, 1) := by decide +kernel
theorem d_Ops_isOp_11 : decode b_Ops_isOp 11 = .ok (.goto 4, 3) := by decide +kernel
theorem d_Ops_opens_0 : decode b_Ops_opens 0 = .ok (.iload_n 0, 1) := by decide +kernel
theorem d_Ops_opens_1 : decode b_Ops_opens 1 = .ok (.iconst 1, 1) := by decide +kernel
theorem d_Ops_opens_2 : decode b_Ops_opens 2 = .ok (.if_icmp .eq 13, 3) := by decide +kernel
theorem d_Ops_opens_15 : decode b_Ops_opens 15 = .ok (.iconst 1, 1) := by decide +kernel
theorem d_Ops_opens_16 : decode b_Ops_opens 16 = .ok (.goto 4, 3) := by decide +kernel
theorem d_Ops_opens_20 : decode b_Ops_opens 20 = .ok (.ireturn, 1) := by decide +kernel
theorem d_Ops_opens_5 : decode b_Ops_opens 5 = .ok (.iload_n 0, 1) := by decide +kernel
theorem d_Ops_opens_6 : decode b_Ops_opens 6 = .ok (.iconst 2, 1) := by decide +kernel
theorem d_Ops_opens_7 : decode b_Ops_opens 7 = .ok (.if_icmp .eq 8, 3) := by decide +kernel
theorem d_Ops_opens_10 : decode b_Ops_opens 10 = .ok (.iload_n 0, 1) := by decide +kernel
theorem d_Ops_opens_11 : decode b_Ops_opens 11 = .ok (.iconst 3, 1) := by decide +kernel
theorem d_Ops_opens_12 : decode b_Ops_opens 12 = .ok (.if_icmp .ne 7, 3) := by decide +kernel
theorem d_Ops_opens_19 : decode b_Ops_opens 19 = .ok (.iconst 0, 1) := by decide +kernel
theorem d_Ops_namesLocal_0 : decode b_Ops_namesLocal 0 = .ok (.iload_n 0, 1) := by decide +kernel
theorem d_Ops_namesLocal_1 : decode b_Ops_namesLocal 1 = .ok (.bipush 12, 2) := by decide +kernel
theorem d_Ops_namesLocal_3 : decode b_Ops_namesLocal 3 = .ok (.if_icmp .eq 15, 3) := by decide +kernel
theorem d_Ops_namesLocal_18 : decode b_Ops_namesLocal 18 = .ok (.iconst 1, 1) := by decide +kernel
theorem d_Ops_namesLocal_19 : decode b_Ops_namesLocal 19 = .ok (.goto 4, 3) := by decide +kernel
theorem d_Ops_namesLocal_23 : decode b_Ops_namesLocal 23 = .ok (.ireturn, 1) := by decide +kernel
theorem d_Ops_namesLocal_6 : decode b_Ops_namesLocal 6 = .ok (.iload_n 0, 1) := by decide +kernel
theorem d_Ops_namesLocal_7 : decode b_Ops_namesLocal 7 = .ok (.bipush 13, 2) := by decide +kernel
theorem d_Ops_namesLocal_9 : decode b_Ops_namesLocal 9 = .ok (.if_icmp .eq 9, 3) := by decide +kernel
theorem d_Ops_namesLocal_12 : decode b_Ops_namesLocal 12 = .ok (.iload_n 0, 1) := by decide +kernel
theorem d_Ops_namesLocal_13 : decode b_Ops_namesLocal 13 = .ok (.bipush 14, 2) := by decide +kernel
theorem d_Ops_namesLocal_15 : decode b_Ops_namesLocal 15 = .ok (.if_icmp .ne 7, 3) := by decide +kernel
theorem d_Ops_namesLocal_22 : decode b_Ops_namesLocal 22 = .ok (.iconst 0, 1) := by decide +kernel
theorem d_Ops_hasArgument_0 : decode b_Ops_hasArgument 0 = .ok (.iload_n 0, 1) := by decide +kernel
theorem d_Ops_hasArgument_1 : decode b_Ops_hasArgument 1 = .ok (.invokestatic 9, 3) := by decide +kernel
theorem d_Ops_hasArgument_4 : decode b_Ops_hasArgument 4 = .ok (.ifCond .ne 46, 3) := by decide +kernel
theorem d_Ops_hasArgument_50 : decode b_Ops_hasArgument 50 = .ok (.iconst 1, 1) := by decide +kernel
theorem d_Ops_hasArgument_51 : decode b_Ops_hasArgument 51 = .ok (.goto 4, 3) := by decide +kernel
theorem d_Ops_hasArgument_55 : decode b_Ops_hasArgument 55 = .ok (.ireturn, 1) := by decide +kernel
theorem d_Ops_hasArgument_7 : decode b_Ops_hasArgument 7 = .ok (.iload_n 0, 1) := by decide +kernel
theorem d_Ops_hasArgument_8 : decode b_Ops_hasArgument 8 = .ok (.bipush 6, 2) := by decide +kernel
theorem d_Ops_hasArgument_10 : decode b_Ops_hasArgument 10 = .ok (.if_icmp .eq 40, 3) := by decide +kernel
theorem d_Ops_hasArgument_13 : decode b_Ops_hasArgument 13 = .ok (.iload_n 0, 1) := by decide +kernel
theorem d_Ops_hasArgument_14 : decode b_Ops_hasArgument 14 = .ok (.bipush 7, 2) := by decide +kernel
theorem d_Ops_hasArgument_16 : decode b_Ops_hasArgument 16 = .ok (.if_icmp .eq 34, 3) := by decide +kernel
theorem d_Ops_hasArgument_19 : decode b_Ops_hasArgument 19 = .ok (.iload_n 0, 1) := by decide +kernel
theorem d_Ops_hasArgument_20 : decode b_Ops_hasArgument 20 = .ok (.bipush 9, 2) := by decide +kernel
theorem d_Ops_hasArgument_22 : decode b_Ops_hasArgument 22 = .ok (.if_icmp .eq 28, 3) := by decide +kernel
theorem d_Ops_hasArgument_25 : decode b_Ops_hasArgument 25 = .ok (.iload_n 0, 1) := by decide +kernel
theorem d_Ops_hasArgument_26 : decode b_Ops_hasArgument 26 = .ok (.invokestatic 13, 3) := by decide +kernel
theorem d_Ops_hasArgument_29 : decode b_Ops_hasArgument 29 = .ok (.ifCond .ne 21, 3) := by decide +kernel
theorem d_Ops_hasArgument_32 : decode b_Ops_hasArgument 32 = .ok (.iload_n 0, 1) := by decide +kernel
theorem d_Ops_hasArgument_33 : decode b_Ops_hasArgument 33 = .ok (.bipush 15, 2) := by decide +kernel
theorem d_Ops_hasArgument_35 : decode b_Ops_hasArgument 35 = .ok (.if_icmp .eq 15, 3) := by decide +kernel
theorem d_Ops_hasArgument_38 : decode b_Ops_hasArgument 38 = .ok (.iload_n 0, 1) := by decide +kernel
theorem d_Ops_hasArgument_39 : decode b_Ops_hasArgument 39 = .ok (.bipush 16, 2) := by decide +kernel
theorem d_Ops_hasArgument_41 : decode b_Ops_hasArgument 41 = .ok (.if_icmp .eq 9, 3) := by decide +kernel
theorem d_Ops_hasArgument_44 : decode b_Ops_hasArgument 44 = .ok (.iload_n 0, 1) := by decide +kernel
theorem d_Ops_hasArgument_45 : decode b_Ops_hasArgument 45 = .ok (.bipush 17, 2) := by decide +kernel
theorem d_Ops_hasArgument_47 : decode b_Ops_hasArgument 47 = .ok (.if_icmp .ne 7, 3) := by decide +kernel
theorem d_Ops_hasArgument_54 : decode b_Ops_hasArgument 54 = .ok (.iconst 0, 1) := by decide +kernel
theorem d_Program_addInstruction_0 : decode b_Program_addInstruction 0 = .ok (.aload_n 0, 1) := by decide +kernel
theorem d_Program_addInstruction_1 : decode b_Program_addInstruction 1 = .ok (.getfield 48, 3) := by decide +kernel
theorem d_Program_addInstruction_4 : decode b_Program_addInstruction 4 = .ok (.istore_n 3, 1) := by decide +kernel
theorem d_Program_addInstruction_5 : decode b_Program_addInstruction 5 = .ok (.aload_n 0, 1) := by decide +kernel
theorem d_Program_addInstruction_6 : decode b_Program_addInstruction 6 = .ok (.getfield 9, 3) := by decide +kernel
theorem d_Program_addInstruction_9 : decode b_Program_addInstruction 9 = .ok (.iload_n 3, 1) := by decide +kernel
theorem d_Program_addInstruction_10 : decode b_Program_addInstruction 10 = .ok (.iload_n 1, 1) := by decide +kernel
theorem d_Program_addInstruction_11 : decode b_Program_addInstruction 11 = .ok (.iastore, 1) := by decide +kernel
theorem d_Program_addInstruction_12 : decode b_Program_addInstruction 12 = .ok (.aload_n 0, 1) := by decide +kernel
theorem d_Program_addInstruction_13 : decode b_Program_addInstruction 13 = .ok (.getfield 15, 3) := by decide +kernel
theorem d_Program_addInstruction_16 : decode b_Program_addInstruction 16 = .ok (.iload_n 3, 1) := by decide +kernel
theorem d_Program_addInstruction_17 : decode b_Program_addInstruction 17 = .ok (.iload_n 2, 1) := by decide +kernel
theorem d_Program_addInstruction_18 : decode b_Program_addInstruction 18 = .ok (.iastore, 1) := by decide +kernel
theorem d_Program_addInstruction_19 : decode b_Program_addInstruction 19 = .ok (.aload_n 0, 1) := by decide +kernel
theorem d_Program_addInstruction_20 : decode b_Program_addInstruction 20 = .ok (.getfield 18, 3) := by decide +kernel
theorem d_Program_addInstruction_23 : decode b_Program_addInstruction 23 = .ok (.iload_n 3, 1) := by decide +kernel
theorem d_Program_addInstruction_24 : decode b_Program_addInstruction 24 = .ok (.aload_n 0, 1) := by decide +kernel
theorem d_Program_addInstruction_25 : decode b_Program_addInstruction 25 = .ok (.getfield 52, 3) := by decide +kernel
theorem d_Program_addInstruction_28 : decode b_Program_addInstruction 28 = .ok (.iconst 1, 1) := by decide +kernel
theorem d_Program_addInstruction_29 : decode b_Program_addInstruction 29 = .ok (.isub, 1) := by decide +kernel
theorem d_Program_addInstruction_30 : decode b_Program_addInstruction 30 = .ok (.iastore, 1) := by decide +kernel
theorem d_Program_addInstruction_31 : decode b_Program_addInstruction 31 = .ok (.aload_n 0, 1) := by decide +kernel
theorem d_Program_addInstruction_32 : decode b_Program_addInstruction 32 = .ok (.getfield 21, 3) := by decide +kernel
theorem d_Program_addInstruction_35 : decode b_Program_addInstruction 35 = .ok (.iload_n 3, 1) := by decide +kernel
theorem d_Program_addInstruction_36 : decode b_Program_addInstruction 36 = .ok (.bipush (-3), 2) := by decide +kernel
theorem d_Program_addInstruction_38 : decode b_Program_addInstruction 38 = .ok (.iastore, 1) := by decide +kernel
theorem d_Program_addInstruction_39 : decode b_Program_addInstruction 39 = .ok (.aload_n 0, 1) := by decide +kernel
theorem d_Program_addInstruction_40 : decode b_Program_addInstruction 40 = .ok (.getfield 24, 3) := by decide +kernel
theorem d_Program_addInstruction_43 : decode b_Program_addInstruction 43 = .ok (.iload_n 3, 1) := by decide +kernel
theorem d_Program_addInstruction_44 : decode b_Program_addInstruction 44 = .ok (.bipush (-3), 2) := by decide +kernel
theorem d_Program_addInstruction_46 : decode b_Program_addInstruction 46 = .ok (.iastore, 1) := by decide +kernel
theorem d_Program_addInstruction_47 : decode b_Program_addInstruction 47 = .ok (.aload_n 0, 1) := by decide +kernel
theorem d_Program_addInstruction_48 : decode b_Program_addInstruction 48 = .ok (.dup, 1) := by decide +kernel
theorem d_Program_addInstruction_49 : decode b_Program_addInstruction 49 = .ok (.getfield 48, 3) := by decide +kernel
theorem d_Program_addInstruction_52 : decode b_Program_addInstruction 52 = .ok (.iconst 1, 1) := by decide +kernel
theorem d_Program_addInstruction_53 : decode b_Program_addInstruction 53 = .ok (.iadd, 1) := by decide +kernel
theorem d_Program_addInstruction_54 : decode b_Program_addInstruction 54 = .ok (.putfield 48, 3) := by decide +kernel
theorem d_Program_addInstruction_57 : decode b_Program_addInstruction 57 = .ok (.iload_n 3, 1) := by decide +kernel
theorem d_Program_addInstruction_58 : decode b_Program_addInstruction 58 = .ok (.ireturn, 1) := by decide +kernel
theorem d_Program_close_0 : decode b_Program_close 0 = .ok (.aload_n 0, 1) := by decide +kernel
theorem d_Program_close_1 : decode b_Program_close 1 = .ok (.getfield 21, 3) := by decide +kernel
theorem d_Program_close_4 : decode b_Program_close 4 = .ok (.iload_n 1, 1) := by decide +kernel
theorem d_Program_close_5 : decode b_Program_close 5 = .ok (.iload_n 2, 1) := by decide +kernel
theorem d_Program_close_6 : decode b_Program_close 6 = .ok (.iastore, 1) := by decide +kernel
theorem d_Program_close_7 : decode b_Program_close 7 = .ok (.aload_n 0, 1) := by decide +kernel
theorem d_Program_close_8 : decode b_Program_close 8 = .ok (.getfield 24, 3) := by decide +kernel
theorem d_Program_close_11 : decode b_Program_close 11 = .ok (.iload_n 1, 1) := by decide +kernel
theorem d_Program_close_12 : decode b_Program_close 12 = .ok (.iaload, 1) := by decide +kernel
theorem d_Program_close_13 : decode b_Program_close 13 = .ok (.bipush (-3), 2) := by decide +kernel
theorem d_Program_close_15 : decode b_Program_close 15 = .ok (.if_icmp .eq 15, 3) := by decide +kernel
theorem d_Program_close_30 : decode b_Program_close 30 = .ok (.return_, 1) := by decide +kernel
theorem d_Program_close_18 : decode b_Program_close 18 = .ok (.aload_n 0, 1) := by decide +kernel
theorem d_Program_close_19 : decode b_Program_close 19 = .ok (.getfield 21, 3) := by decide +kernel
theorem d_Program_close_22 : decode b_Program_close 22 = .ok (.aload_n 0, 1) := by decide +kernel
theorem d_Program_close_23 : decode b_Program_close 23 = .ok (.getfield 24, 3) := by decide +kernel
theorem d_Program_close_26 : decode b_Program_close 26 = .ok (.iload_n 1, 1) := by decide +kernel
theorem d_Program_close_27 : decode b_Program_close 27 = .ok (.iaload, 1) := by decide +kernel
theorem d_Program_close_28 : decode b_Program_close 28 = .ok (.iload_n 2, 1) := by decide +kernel
theorem d_Program_close_29 : decode b_Program_close 29 = .ok (.iastore, 1) := by decide +kernel
theorem d_Reader_nest_65 : decode b_Reader_nest 65 = .ok (.iload_n 1, 1) := by decide +kernel
theorem d_Reader_nest_66 : decode b_Reader_nest 66 = .ok (.iconst 5, 1) := by decide +kernel
theorem d_Reader_nest_67 : decode b_Reader_nest 67 = .ok (.if_icmp .ne 39, 3) := by decide +kernel
theorem d_Reader_nest_106 : decode b_Reader_nest 106 = .ok (.iconst 0, 1) := by decide +kernel
theorem d_Reader_nest_107 : decode b_Reader_nest 107 = .ok (.ireturn, 1) := by decide +kernel
theorem d_Reader_nest_70 : decode b_Reader_nest 70 = .ok (.aload_n 0, 1) := by decide +kernel
theorem d_Reader_nest_71 : decode b_Reader_nest 71 = .ok (.getfield 48, 3) := by decide +kernel
theorem d_Reader_nest_74 : decode b_Reader_nest 74 = .ok (.ifCond .ne 5, 3) := by decide +kernel
theorem d_Reader_nest_79 : decode b_Reader_nest 79 = .ok (.aload_n 0, 1) := by decide +kernel
theorem d_Reader_nest_80 : decode b_Reader_nest 80 = .ok (.dup, 1) := by decide +kernel
theorem d_Reader_nest_81 : decode b_Reader_nest 81 = .ok (.getfield 48, 3) := by decide +kernel
theorem d_Reader_nest_84 : decode b_Reader_nest 84 = .ok (.iconst 1, 1) := by decide +kernel
theorem d_Reader_nest_85 : decode b_Reader_nest 85 = .ok (.isub, 1) := by decide +kernel
theorem d_Reader_nest_86 : decode b_Reader_nest 86 = .ok (.putfield 48, 3) := by decide +kernel
theorem d_Reader_nest_89 : decode b_Reader_nest 89 = .ok (.aload_n 0, 1) := by decide +kernel
theorem d_Reader_nest_90 : decode b_Reader_nest 90 = .ok (.getfield 18, 3) := by decide +kernel
theorem d_Reader_nest_93 : decode b_Reader_nest 93 = .ok (.aload_n 0, 1) := by decide +kernel
theorem d_Reader_nest_94 : decode b_Reader_nest 94 = .ok (.getfield 15, 3) := by decide +kernel
theorem d_Reader_nest_97 : decode b_Reader_nest 97 = .ok (.aload_n 0, 1) := by decide +kernel
theorem d_Reader_nest_98 : decode b_Reader_nest 98 = .ok (.getfield 48, 3) := by decide +kernel
theorem d_Reader_nest_101 : decode b_Reader_nest 101 = .ok (.iaload, 1) := by decide +kernel
theorem d_Reader_nest_102 : decode b_Reader_nest 102 = .ok (.iload_n 2, 1) := by decide +kernel
theorem d_Reader_nest_103 : decode b_Reader_nest 103 = .ok (.invokevirtual 83, 3) := by decide +kernel
theorem d_Reader_nest_77 : decode b_Reader_nest 77 = .ok (.iconst 1, 1) := by decide +kernel
theorem d_Reader_nest_78 : decode b_Reader_nest 78 = .ok (.ireturn, 1) := by decide +kernel
theorem d_Reader_nest_0 : decode b_Reader_nest 0 = .ok (.iload_n 1, 1) := by decide +kernel
theorem d_Reader_nest_1 : decode b_Reader_nest 1 = .ok (.invokestatic 67, 3) := by decide +kernel
theorem d_Reader_nest_4 : decode b_Reader_nest 4 = .ok (.ifCond .eq 26, 3) := by decide +kernel
theorem d_Reader_nest_30 : decode b_Reader_nest 30 = .ok (.iload_n 1, 1) := by decide +kernel
theorem d_Reader_nest_31 : decode b_Reader_nest 31 = .ok (.iconst 4, 1) := by decide +kernel
theorem d_Reader_nest_32 : decode b_Reader_nest 32 = .ok (.if_icmp .ne 33, 3) := by decide +kernel
theorem d_Reader_nest_35 : decode b_Reader_nest 35 = .ok (.aload_n 0, 1) := by decide +kernel
theorem d_Reader_nest_36 : decode b_Reader_nest 36 = .ok (.getfield 48, 3) := by decide +kernel
theorem d_Reader_nest_39 : decode b_Reader_nest 39 = .ok (.ifCond .le 26, 3) := by decide +kernel
theorem d_Reader_nest_42 : decode b_Reader_nest 42 = .ok (.aload_n 0, 1) := by decide +kernel
theorem d_Reader_nest_43 : decode b_Reader_nest 43 = .ok (.getfield 18, 3) := by decide +kernel
theorem d_Reader_nest_46 : decode b_Reader_nest 46 = .ok (.getfield 80, 3) := by decide +kernel
theorem d_Reader_nest_49 : decode b_Reader_nest 49 = .ok (.aload_n 0, 1) := by decide +kernel
theorem d_Reader_nest_50 : decode b_Reader_nest 50 = .ok (.getfield 15, 3) := by decide +kernel
theorem d_Reader_nest_53 : decode b_Reader_nest 53 = .ok (.aload_n 0, 1) := by decide +kernel
theorem d_Reader_nest_54 : decode b_Reader_nest 54 = .ok (.getfield 48, 3) := by decide +kernel
theorem d_Reader_nest_57 : decode b_Reader_nest 57 = .ok (.iconst 1, 1) := by decide +kernel
theorem d_Reader_nest_58 : decode b_Reader_nest 58 = .ok (.isub, 1) := by decide +kernel
theorem d_Reader_nest_59 : decode b_Reader_nest 59 = .ok (.iaload, 1) := by decide +kernel
theorem d_Reader_nest_60 : decode b_Reader_nest 60 = .ok (.iload_n 2, 1) := by decide +kernel
theorem d_Reader_nest_61 : decode b_Reader_nest 61 = .ok (.iastore, 1) := by decide +kernel
theorem d_Reader_nest_62 : decode b_Reader_nest 62 = .ok (.goto 44, 3) := by decide +kernel
theorem d_Reader_nest_7 : decode b_Reader_nest 7 = .ok (.aload_n 0, 1) := by decide +kernel
theorem d_Reader_nest_8 : decode b_Reader_nest 8 = .ok (.getfield 15, 3) := by decide +kernel
theorem d_Reader_nest_11 : decode b_Reader_nest 11 = .ok (.aload_n 0, 1) := by decide +kernel
theorem d_Reader_nest_12 : decode b_Reader_nest 12 = .ok (.getfield 48, 3) := by decide +kernel
theorem d_Reader_nest_15 : decode b_Reader_nest 15 = .ok (.iload_n 2, 1) := by decide +kernel
theorem d_Reader_nest_16 : decode b_Reader_nest 16 = .ok (.iastore, 1) := by decide +kernel
theorem d_Reader_nest_17 : decode b_Reader_nest 17 = .ok (.aload_n 0, 1) := by decide +kernel
theorem d_Reader_nest_18 : decode b_Reader_nest 18 = .ok (.dup, 1) := by decide +kernel
theorem d_Reader_nest_19 : decode b_Reader_nest 19 = .ok (.getfield 48, 3) := by decide +kernel
theorem d_Reader_nest_22 : decode b_Reader_nest 22 = .ok (.iconst 1, 1) := by decide +kernel
theorem d_Reader_nest_23 : decode b_Reader_nest 23 = .ok (.iadd, 1) := by decide +kernel
theorem d_Reader_nest_24 : decode b_Reader_nest 24 = .ok (.putfield 48, 3) := by decide +kernel
theorem d_Reader_nest_27 : decode b_Reader_nest 27 = .ok (.goto 79, 3) := by decide +kernel
theorem d_Reader_elseFits_0 : decode b_Reader_elseFits 0 = .ok (.aload_n 0, 1) := by decide +kernel
theorem d_Reader_elseFits_1 : decode b_Reader_elseFits 1 = .ok (.getfield 48, 3) := by decide +kernel
theorem d_Reader_elseFits_4 : decode b_Reader_elseFits 4 = .ok (.ifCond .ne 5, 3) := by decide +kernel
theorem d_Reader_elseFits_9 : decode b_Reader_elseFits 9 = .ok (.aload_n 0, 1) := by decide +kernel
theorem d_Reader_elseFits_10 : decode b_Reader_elseFits 10 = .ok (.getfield 15, 3) := by decide +kernel
theorem d_Reader_elseFits_13 : decode b_Reader_elseFits 13 = .ok (.aload_n 0, 1) := by decide +kernel
theorem d_Reader_elseFits_14 : decode b_Reader_elseFits 14 = .ok (.getfield 48, 3) := by decide +kernel
theorem d_Reader_elseFits_17 : decode b_Reader_elseFits 17 = .ok (.iconst 1, 1) := by decide +kernel
theorem d_Reader_elseFits_18 : decode b_Reader_elseFits 18 = .ok (.isub, 1) := by decide +kernel
theorem d_Reader_elseFits_19 : decode b_Reader_elseFits 19 = .ok (.iaload, 1) := by decide +kernel
theorem d_Reader_elseFits_20 : decode b_Reader_elseFits 20 = .ok (.istore_n 1, 1) := by decide +kernel
theorem d_Reader_elseFits_21 : decode b_Reader_elseFits 21 = .ok (.aload_n 0, 1) := by decide +kernel
theorem d_Reader_elseFits_22 : decode b_Reader_elseFits 22 = .ok (.getfield 18, 3) := by decide +kernel
theorem d_Reader_elseFits_25 : decode b_Reader_elseFits 25 = .ok (.getfield 77, 3) := by decide +kernel
theorem d_Reader_elseFits_28 : decode b_Reader_elseFits 28 = .ok (.iload_n 1, 1) := by decide +kernel
theorem d_Reader_elseFits_29 : decode b_Reader_elseFits 29 = .ok (.iaload, 1) := by decide +kernel
theorem d_Reader_elseFits_30 : decode b_Reader_elseFits 30 = .ok (.iconst 3, 1) := by decide +kernel
theorem d_Reader_elseFits_31 : decode b_Reader_elseFits 31 = .ok (.if_icmp .ne 21, 3) := by decide +kernel
theorem d_Reader_elseFits_52 : decode b_Reader_elseFits 52 = .ok (.iconst 0, 1) := by decide +kernel
theorem d_Reader_elseFits_53 : decode b_Reader_elseFits 53 = .ok (.ireturn, 1) := by decide +kernel
theorem d_Reader_elseFits_34 : decode b_Reader_elseFits 34 = .ok (.aload_n 0, 1) := by decide +kernel
theorem d_Reader_elseFits_35 : decode b_Reader_elseFits 35 = .ok (.getfield 18, 3) := by decide +kernel
theorem d_Reader_elseFits_38 : decode b_Reader_elseFits 38 = .ok (.getfield 80, 3) := by decide +kernel
theorem d_Reader_elseFits_41 : decode b_Reader_elseFits 41 = .ok (.iload_n 1, 1) := by decide +kernel
theorem d_Reader_elseFits_42 : decode b_Reader_elseFits 42 = .ok (.iaload, 1) := by decide +kernel
theorem d_Reader_elseFits_43 : decode b_Reader_elseFits 43 = .ok (.bipush (-3), 2) := by decide +kernel
theorem d_Reader_elseFits_45 : decode b_Reader_elseFits 45 = .ok (.if_icmp .ne 7, 3) := by decide +kernel
theorem d_Reader_elseFits_48 : decode b_Reader_elseFits 48 = .ok (.iconst 1, 1) := by decide +kernel
theorem d_Reader_elseFits_49 : decode b_Reader_elseFits 49 = .ok (.goto 4, 3) := by decide +kernel
theorem d_Reader_elseFits_7 : decode b_Reader_elseFits 7 = .ok (.iconst 0, 1) := by decide +kernel
theorem d_Reader_elseFits_8 : decode b_Reader_elseFits 8 = .ok (.ireturn, 1) := by decide +kernel
theorem d_Reader_readInstruction_46 : decode b_Reader_readInstruction 46 = .ok (.aload_n 0, 1) := by decide +kernel
theorem d_Reader_readInstruction_47 : decode b_Reader_readInstruction 47 = .ok (.aload_n 0, 1) := by decide +kernel
theorem d_Reader_readInstruction_48 : decode b_Reader_readInstruction 48 = .ok (.getfield 31, 3) := by decide +kernel
theorem d_Reader_readInstruction_51 : decode b_Reader_readInstruction 51 = .ok (.putfield 34, 3) := by decide +kernel
theorem d_Reader_readInstruction_54 : decode b_Reader_readInstruction 54 = .ok (.iconst 0, 1) := by decide +kernel
theorem d_Reader_readInstruction_55 : decode b_Reader_readInstruction 55 = .ok (.ireturn, 1) := by decide +kernel
theorem d_Reader_readInstruction_104 : decode b_Reader_readInstruction 104 = .ok (.aload_n 0, 1) := by decide +kernel
theorem d_Reader_readInstruction_105 : decode b_Reader_readInstruction 105 = .ok (.getfield 34, 3) := by decide +kernel
theorem d_Reader_readInstruction_108 : decode b_Reader_readInstruction 108 = .ok (.bipush (-3), 2) := by decide +kernel
theorem d_Reader_readInstruction_110 : decode b_Reader_readInstruction 110 = .ok (.if_icmp .eq 5, 3) := by decide +kernel
theorem d_Reader_readInstruction_115 : decode b_Reader_readInstruction 115 = .ok (.aload_n 0, 1) := by decide +kernel
theorem d_Reader_readInstruction_116 : decode b_Reader_readInstruction 116 = .ok (.iload_n 1, 1) := by decide +kernel
theorem d_Reader_readInstruction_117 : decode b_Reader_readInstruction 117 = .ok (.aload_n 0, 1) := by decide +kernel
theorem d_Reader_readInstruction_118 : decode b_Reader_readInstruction 118 = .ok (.getfield 18, 3) := by decide +kernel
theorem d_Reader_readInstruction_121 : decode b_Reader_readInstruction 121 = .ok (.iload_n 1, 1) := by decide +kernel
theorem d_Reader_readInstruction_122 : decode b_Reader_readInstruction 122 = .ok (.iload_n 2, 1) := by decide +kernel
theorem d_Reader_readInstruction_123 : decode b_Reader_readInstruction 123 = .ok (.invokevirtual 70, 3) := by decide +kernel
theorem d_Reader_readInstruction_126 : decode b_Reader_readInstruction 126 = .ok (.invokevirtual 73, 3) := by decide +kernel
theorem d_Reader_readInstruction_129 : decode b_Reader_readInstruction 129 = .ok (.ireturn, 1) := by decide +kernel
theorem d_Reader_readInstruction_113 : decode b_Reader_readInstruction 113 = .ok (.iconst 0, 1) := by decide +kernel
theorem d_Reader_readInstruction_114 : decode b_Reader_readInstruction 114 = .ok (.ireturn, 1) := by decide +kernel
theorem d_Reader_readInstruction_100 : decode b_Reader_readInstruction 100 = .ok (.invokevirtual 37, 3) := by decide +kernel
theorem d_Reader_readInstruction_103 : decode b_Reader_readInstruction 103 = .ok (.istore_n 2, 1) := by decide +kernel
theorem d_Reader_readInstruction_56 : decode b_Reader_readInstruction 56 = .ok (.aload_n 0, 1) := by decide +kernel
theorem d_Reader_readInstruction_57 : decode b_Reader_readInstruction 57 = .ok (.getfield 9, 3) := by decide +kernel
theorem d_Reader_readInstruction_60 : decode b_Reader_readInstruction 60 = .ok (.aload_n 0, 1) := by decide +kernel
theorem d_Reader_readInstruction_61 : decode b_Reader_readInstruction 61 = .ok (.getfield 31, 3) := by decide +kernel
theorem d_Reader_readInstruction_64 : decode b_Reader_readInstruction 64 = .ok (.iaload, 1) := by decide +kernel
theorem d_Reader_readInstruction_65 : decode b_Reader_readInstruction 65 = .ok (.istore_n 1, 1) := by decide +kernel
theorem d_Reader_readInstruction_66 : decode b_Reader_readInstruction 66 = .ok (.aload_n 0, 1) := by decide +kernel
theorem d_Reader_readInstruction_67 : decode b_Reader_readInstruction 67 = .ok (.dup, 1) := by decide +kernel
theorem d_Reader_readInstruction_68 : decode b_Reader_readInstruction 68 = .ok (.getfield 31, 3) := by decide +kernel
theorem d_Reader_readInstruction_71 : decode b_Reader_readInstruction 71 = .ok (.iconst 1, 1) := by decide +kernel
theorem d_Reader_readInstruction_72 : decode b_Reader_readInstruction 72 = .ok (.iadd, 1) := by decide +kernel
theorem d_Reader_readInstruction_73 : decode b_Reader_readInstruction 73 = .ok (.putfield 31, 3) := by decide +kernel
theorem d_Reader_readInstruction_76 : decode b_Reader_readInstruction 76 = .ok (.iconst 0, 1) := by decide +kernel
theorem d_Reader_readInstruction_77 : decode b_Reader_readInstruction 77 = .ok (.istore_n 2, 1) := by decide +kernel
theorem d_Reader_readInstruction_78 : decode b_Reader_readInstruction 78 = .ok (.iload_n 1, 1) := by decide +kernel
theorem d_Reader_readInstruction_79 : decode b_Reader_readInstruction 79 = .ok (.invokestatic 64, 3) := by decide +kernel
theorem d_Reader_readInstruction_82 : decode b_Reader_readInstruction 82 = .ok (.ifCond .eq 22, 3) := by decide +kernel
theorem d_Reader_readInstruction_85 : decode b_Reader_readInstruction 85 = .ok (.aload_n 0, 1) := by decide +kernel
theorem d_Reader_readInstruction_86 : decode b_Reader_readInstruction 86 = .ok (.iconst 0, 1) := by decide +kernel
theorem d_Reader_readInstruction_87 : decode b_Reader_readInstruction 87 = .ok (.iload_n 1, 1) := by decide +kernel
theorem d_Reader_readInstruction_88 : decode b_Reader_readInstruction 88 = .ok (.invokestatic 67, 3) := by decide +kernel
theorem d_Reader_readInstruction_91 : decode b_Reader_readInstruction 91 = .ok (.ifCond .eq 7, 3) := by decide +kernel
theorem d_Reader_readInstruction_98 : decode b_Reader_readInstruction 98 = .ok (.bipush 63, 2) := by decide +kernel
theorem d_Reader_readInstruction_94 : decode b_Reader_readInstruction 94 = .ok (.iconst 1, 1) := by decide +kernel
theorem d_Reader_readInstruction_95 : decode b_Reader_readInstruction 95 = .ok (.goto 5, 3) := by decide +kernel
theorem d_Reader_readInstruction_0 : decode b_Reader_readInstruction 0 = .ok (.aload_n 0, 1) := by decide +kernel
theorem d_Reader_readInstruction_1 : decode b_Reader_readInstruction 1 = .ok (.getfield 31, 3) := by decide +kernel
theorem d_Reader_readInstruction_4 : decode b_Reader_readInstruction 4 = .ok (.aload_n 0, 1) := by decide +kernel
theorem d_Reader_readInstruction_5 : decode b_Reader_readInstruction 5 = .ok (.getfield 22, 3) := by decide +kernel
theorem d_Reader_readInstruction_8 : decode b_Reader_readInstruction 8 = .ok (.if_icmp .ge 38, 3) := by decide +kernel
theorem d_Reader_readInstruction_11 : decode b_Reader_readInstruction 11 = .ok (.aload_n 0, 1) := by decide +kernel
theorem d_Reader_readInstruction_12 : decode b_Reader_readInstruction 12 = .ok (.getfield 9, 3) := by decide +kernel
theorem d_Reader_readInstruction_15 : decode b_Reader_readInstruction 15 = .ok (.aload_n 0, 1) := by decide +kernel
theorem d_Reader_readInstruction_16 : decode b_Reader_readInstruction 16 = .ok (.getfield 31, 3) := by decide +kernel
theorem d_Reader_readInstruction_19 : decode b_Reader_readInstruction 19 = .ok (.iaload, 1) := by decide +kernel
theorem d_Reader_readInstruction_20 : decode b_Reader_readInstruction 20 = .ok (.invokestatic 55, 3) := by decide +kernel
theorem d_Reader_readInstruction_23 : decode b_Reader_readInstruction 23 = .ok (.ifCond .eq 23, 3) := by decide +kernel
theorem d_Reader_readInstruction_26 : decode b_Reader_readInstruction 26 = .ok (.aload_n 0, 1) := by decide +kernel
theorem d_Reader_readInstruction_27 : decode b_Reader_readInstruction 27 = .ok (.getfield 9, 3) := by decide +kernel
theorem d_Reader_readInstruction_30 : decode b_Reader_readInstruction 30 = .ok (.aload_n 0, 1) := by decide +kernel
theorem d_Reader_readInstruction_31 : decode b_Reader_readInstruction 31 = .ok (.getfield 31, 3) := by decide +kernel
theorem d_Reader_readInstruction_34 : decode b_Reader_readInstruction 34 = .ok (.iaload, 1) := by decide +kernel
theorem d_Reader_readInstruction_35 : decode b_Reader_readInstruction 35 = .ok (.iconst 4, 1) := by decide +kernel
theorem d_Reader_readInstruction_36 : decode b_Reader_readInstruction 36 = .ok (.if_icmp .ne 20, 3) := by decide +kernel
theorem d_Reader_readInstruction_39 : decode b_Reader_readInstruction 39 = .ok (.aload_n 0, 1) := by decide +kernel
theorem d_Reader_readInstruction_40 : decode b_Reader_readInstruction 40 = .ok (.invokevirtual 61, 3) := by decide +kernel
theorem d_Reader_readInstruction_43 : decode b_Reader_readInstruction 43 = .ok (.ifCond .ne 13, 3) := by decide +kernel
theorem d_Reader_readFunction_52 : decode b_Reader_readFunction 52 = .ok (.iload 5, 2) := by decide +kernel
theorem d_Reader_readFunction_54 : decode b_Reader_readFunction 54 = .ok (.bipush 100, 2) := by decide +kernel
theorem d_Reader_readFunction_56 : decode b_Reader_readFunction 56 = .ok (.if_icmp .ge 29, 3) := by decide +kernel
theorem d_Reader_readFunction_85 : decode b_Reader_readFunction 85 = .ok (.return_, 1) := by decide +kernel
theorem d_Reader_readFunction_59 : decode b_Reader_readFunction 59 = .ok (.iload 4, 2) := by decide +kernel
theorem d_Reader_readFunction_61 : decode b_Reader_readFunction 61 = .ok (.ifCond .ne 24, 3) := by decide +kernel
theorem d_Reader_readFunction_64 : decode b_Reader_readFunction 64 = .ok (.aload_n 0, 1) := by decide +kernel
theorem d_Reader_readFunction_65 : decode b_Reader_readFunction 65 = .ok (.getfield 34, 3) := by decide +kernel
theorem d_Reader_readFunction_68 : decode b_Reader_readFunction 68 = .ok (.bipush (-3), 2) := by decide +kernel
theorem d_Reader_readFunction_70 : decode b_Reader_readFunction 70 = .ok (.if_icmp .ne 15, 3) := by decide +kernel
theorem d_Reader_readFunction_73 : decode b_Reader_readFunction 73 = .ok (.aload_n 0, 1) := by decide +kernel
theorem d_Reader_readFunction_74 : decode b_Reader_readFunction 74 = .ok (.invokevirtual 51, 3) := by decide +kernel
theorem d_Reader_readFunction_77 : decode b_Reader_readFunction 77 = .ok (.istore 4, 2) := by decide +kernel
theorem d_Reader_readFunction_79 : decode b_Reader_readFunction 79 = .ok (.iinc 5 1, 3) := by decide +kernel
theorem d_Reader_readFunction_82 : decode b_Reader_readFunction 82 = .ok (.goto (-30), 3) := by decide +kernel
theorem d_Reader_readFunction_0 : decode b_Reader_readFunction 0 = .ok (.aload_n 0, 1) := by decide +kernel
theorem d_Reader_readFunction_1 : decode b_Reader_readFunction 1 = .ok (.iconst 0, 1) := by decide +kernel
theorem d_Reader_readFunction_2 : decode b_Reader_readFunction 2 = .ok (.iconst 2, 1) := by decide +kernel
theorem d_Reader_readFunction_3 : decode b_Reader_readFunction 3 = .ok (.invokevirtual 37, 3) := by decide +kernel
theorem d_Reader_readFunction_6 : decode b_Reader_readFunction 6 = .ok (.istore_n 1, 1) := by decide +kernel
theorem d_Reader_readFunction_7 : decode b_Reader_readFunction 7 = .ok (.aload_n 0, 1) := by decide +kernel
theorem d_Reader_readFunction_8 : decode b_Reader_readFunction 8 = .ok (.iconst 0, 1) := by decide +kernel
theorem d_Reader_readFunction_9 : decode b_Reader_readFunction 9 = .ok (.iconst 2, 1) := by decide +kernel
theorem d_Reader_readFunction_10 : decode b_Reader_readFunction 10 = .ok (.invokevirtual 37, 3) := by decide +kernel
theorem d_Reader_readFunction_13 : decode b_Reader_readFunction 13 = .ok (.istore_n 2, 1) := by decide +kernel
theorem d_Reader_readFunction_14 : decode b_Reader_readFunction 14 = .ok (.aload_n 0, 1) := by decide +kernel
theorem d_Reader_readFunction_15 : decode b_Reader_readFunction 15 = .ok (.iconst 0, 1) := by decide +kernel
theorem d_Reader_readFunction_16 : decode b_Reader_readFunction 16 = .ok (.iconst 1, 1) := by decide +kernel
theorem d_Reader_readFunction_17 : decode b_Reader_readFunction 17 = .ok (.invokevirtual 37, 3) := by decide +kernel
theorem d_Reader_readFunction_20 : decode b_Reader_readFunction 20 = .ok (.istore_n 3, 1) := by decide +kernel
theorem d_Reader_readFunction_21 : decode b_Reader_readFunction 21 = .ok (.aload_n 0, 1) := by decide +kernel
theorem d_Reader_readFunction_22 : decode b_Reader_readFunction 22 = .ok (.getfield 34, 3) := by decide +kernel
theorem d_Reader_readFunction_25 : decode b_Reader_readFunction 25 = .ok (.bipush (-3), 2) := by decide +kernel
theorem d_Reader_readFunction_27 : decode b_Reader_readFunction 27 = .ok (.if_icmp .eq 4, 3) := by decide +kernel
theorem d_Reader_readFunction_31 : decode b_Reader_readFunction 31 = .ok (.aload_n 0, 1) := by decide +kernel
theorem d_Reader_readFunction_32 : decode b_Reader_readFunction 32 = .ok (.getfield 18, 3) := by decide +kernel
theorem d_Reader_readFunction_35 : decode b_Reader_readFunction 35 = .ok (.iload_n 1, 1) := by decide +kernel
theorem d_Reader_readFunction_36 : decode b_Reader_readFunction 36 = .ok (.iload_n 2, 1) := by decide +kernel
theorem d_Reader_readFunction_37 : decode b_Reader_readFunction 37 = .ok (.iload_n 3, 1) := by decide +kernel
theorem d_Reader_readFunction_38 : decode b_Reader_readFunction 38 = .ok (.invokevirtual 44, 3) := by decide +kernel
theorem d_Reader_readFunction_41 : decode b_Reader_readFunction 41 = .ok (.aload_n 0, 1) := by decide +kernel
theorem d_Reader_readFunction_42 : decode b_Reader_readFunction 42 = .ok (.iconst 0, 1) := by decide +kernel
theorem d_Reader_readFunction_43 : decode b_Reader_readFunction 43 = .ok (.putfield 48, 3) := by decide +kernel
theorem d_Reader_readFunction_46 : decode b_Reader_readFunction 46 = .ok (.iconst 0, 1) := by decide +kernel
theorem d_Reader_readFunction_47 : decode b_Reader_readFunction 47 = .ok (.istore 4, 2) := by decide +kernel
theorem d_Reader_readFunction_49 : decode b_Reader_readFunction 49 = .ok (.iconst 0, 1) := by decide +kernel
theorem d_Reader_readFunction_50 : decode b_Reader_readFunction 50 = .ok (.istore 5, 2) := by decide +kernel
theorem d_Reader_readFunction_30 : decode b_Reader_readFunction 30 = .ok (.return_, 1) := by decide +kernel
theorem d_Reader_readModule_79 : decode b_Reader_readModule 79 = .ok (.aload_n 0, 1) := by decide +kernel
theorem d_Reader_readModule_80 : decode b_Reader_readModule 80 = .ok (.iconst 0, 1) := by decide +kernel
theorem d_Reader_readModule_81 : decode b_Reader_readModule 81 = .ok (.putfield 22, 3) := by decide +kernel
theorem d_Reader_readModule_84 : decode b_Reader_readModule 84 = .ok (.aload_n 0, 1) := by decide +kernel
theorem d_Reader_readModule_85 : decode b_Reader_readModule 85 = .ok (.getfield 34, 3) := by decide +kernel
theorem d_Reader_readModule_88 : decode b_Reader_readModule 88 = .ok (.ireturn, 1) := by decide +kernel
theorem d_Reader_readModule_51 : decode b_Reader_readModule 51 = .ok (.aload_n 0, 1) := by decide +kernel
theorem d_Reader_readModule_52 : decode b_Reader_readModule 52 = .ok (.getfield 34, 3) := by decide +kernel
theorem d_Reader_readModule_55 : decode b_Reader_readModule 55 = .ok (.bipush (-3), 2) := by decide +kernel
theorem d_Reader_readModule_57 : decode b_Reader_readModule 57 = .ok (.if_icmp .ne 22, 3) := by decide +kernel
theorem d_Reader_readModule_60 : decode b_Reader_readModule 60 = .ok (.aload_n 0, 1) := by decide +kernel
theorem d_Reader_readModule_61 : decode b_Reader_readModule 61 = .ok (.getfield 31, 3) := by decide +kernel
theorem d_Reader_readModule_64 : decode b_Reader_readModule 64 = .ok (.aload_n 0, 1) := by decide +kernel
theorem d_Reader_readModule_65 : decode b_Reader_readModule 65 = .ok (.getfield 22, 3) := by decide +kernel
theorem d_Reader_readModule_68 : decode b_Reader_readModule 68 = .ok (.if_icmp .ge 11, 3) := by decide +kernel
theorem d_Reader_readModule_71 : decode b_Reader_readModule 71 = .ok (.aload_n 0, 1) := by decide +kernel
theorem d_Reader_readModule_72 : decode b_Reader_readModule 72 = .ok (.aload_n 0, 1) := by decide +kernel
theorem d_Reader_readModule_73 : decode b_Reader_readModule 73 = .ok (.getfield 31, 3) := by decide +kernel
theorem d_Reader_readModule_76 : decode b_Reader_readModule 76 = .ok (.putfield 34, 3) := by decide +kernel
theorem d_Reader_readModule_27 : decode b_Reader_readModule 27 = .ok (.iload_n 2, 1) := by decide +kernel
theorem d_Reader_readModule_28 : decode b_Reader_readModule 28 = .ok (.iload_n 1, 1) := by decide +kernel
theorem d_Reader_readModule_29 : decode b_Reader_readModule 29 = .ok (.if_icmp .ge 22, 3) := by decide +kernel
theorem d_Reader_readModule_32 : decode b_Reader_readModule 32 = .ok (.aload_n 0, 1) := by decide +kernel
theorem d_Reader_readModule_33 : decode b_Reader_readModule 33 = .ok (.getfield 34, 3) := by decide +kernel
theorem d_Reader_readModule_36 : decode b_Reader_readModule 36 = .ok (.bipush (-3), 2) := by decide +kernel
theorem d_Reader_readModule_38 : decode b_Reader_readModule 38 = .ok (.if_icmp .ne 13, 3) := by decide +kernel
theorem d_Reader_readModule_41 : decode b_Reader_readModule 41 = .ok (.aload_n 0, 1) := by decide +kernel
theorem d_Reader_readModule_42 : decode b_Reader_readModule 42 = .ok (.invokevirtual 41, 3) := by decide +kernel
theorem d_Reader_readModule_45 : decode b_Reader_readModule 45 = .ok (.iinc 2 1, 3) := by decide +kernel
theorem d_Reader_readModule_48 : decode b_Reader_readModule 48 = .ok (.goto (-21), 3) := by decide +kernel
theorem d_Reader_readModule_0 : decode b_Reader_readModule 0 = .ok (.aload_n 0, 1) := by decide +kernel
theorem d_Reader_readModule_1 : decode b_Reader_readModule 1 = .ok (.getfield 18, 3) := by decide +kernel
theorem d_Reader_readModule_4 : decode b_Reader_readModule 4 = .ok (.invokevirtual 26, 3) := by decide +kernel
theorem d_Reader_readModule_7 : decode b_Reader_readModule 7 = .ok (.aload_n 0, 1) := by decide +kernel
theorem d_Reader_readModule_8 : decode b_Reader_readModule 8 = .ok (.iconst 0, 1) := by decide +kernel
theorem d_Reader_readModule_9 : decode b_Reader_readModule 9 = .ok (.putfield 31, 3) := by decide +kernel
theorem d_Reader_readModule_12 : decode b_Reader_readModule 12 = .ok (.aload_n 0, 1) := by decide +kernel
theorem d_Reader_readModule_13 : decode b_Reader_readModule 13 = .ok (.bipush (-3), 2) := by decide +kernel
theorem d_Reader_readModule_15 : decode b_Reader_readModule 15 = .ok (.putfield 34, 3) := by decide +kernel
theorem d_Reader_readModule_18 : decode b_Reader_readModule 18 = .ok (.aload_n 0, 1) := by decide +kernel
theorem d_Reader_readModule_19 : decode b_Reader_readModule 19 = .ok (.iconst 1, 1) := by decide +kernel
theorem d_Reader_readModule_20 : decode b_Reader_readModule 20 = .ok (.iconst 3, 1) := by decide +kernel
theorem d_Reader_readModule_21 : decode b_Reader_readModule 21 = .ok (.invokevirtual 37, 3) := by decide +kernel
theorem d_Reader_readModule_24 : decode b_Reader_readModule 24 = .ok (.istore_n 1, 1) := by decide +kernel
theorem d_Reader_readModule_25 : decode b_Reader_readModule 25 = .ok (.iconst 0, 1) := by decide +kernel
theorem d_Reader_readModule_26 : decode b_Reader_readModule 26 = .ok (.istore_n 2, 1) := by decide +kernel
theorem d_Ops_taken_0 : decode b_Ops_taken 0 = .ok (.iload_n 0, 1) := by decide +kernel
theorem d_Ops_taken_1 : decode b_Ops_taken 1 = .ok (.invokestatic 16, 3) := by decide +kernel
theorem d_Ops_taken_4 : decode b_Ops_taken 4 = .ok (.ifCond .eq 11, 3) := by decide +kernel
theorem d_Ops_taken_15 : decode b_Ops_taken 15 = .ok (.iconst 0, 1) := by decide +kernel
theorem d_Ops_taken_16 : decode b_Ops_taken 16 = .ok (.ireturn, 1) := by decide +kernel
theorem d_Ops_taken_7 : decode b_Ops_taken 7 = .ok (.getstatic 19, 3) := by decide +kernel
theorem d_Ops_taken_10 : decode b_Ops_taken 10 = .ok (.iload_n 0, 1) := by decide +kernel
theorem d_Ops_taken_11 : decode b_Ops_taken 11 = .ok (.iaload, 1) := by decide +kernel
theorem d_Ops_taken_12 : decode b_Ops_taken 12 = .ok (.goto 4, 3) := by decide +kernel
theorem d_Checker_take_53 : decode b_Checker_take 53 = .ok (.iinc 2 1, 3) := by decide +kernel
theorem d_Checker_take_56 : decode b_Checker_take 56 = .ok (.goto (-54), 3) := by decide +kernel
theorem d_Checker_take_2 : decode b_Checker_take 2 = .ok (.iload_n 2, 1) := by decide +kernel
theorem d_Checker_take_3 : decode b_Checker_take 3 = .ok (.iload_n 1, 1) := by decide +kernel
theorem d_Checker_take_4 : decode b_Checker_take 4 = .ok (.if_icmp .ge 55, 3) := by decide +kernel
theorem d_Checker_take_59 : decode b_Checker_take 59 = .ok (.return_, 1) := by decide +kernel
theorem d_Checker_take_7 : decode b_Checker_take 7 = .ok (.aload_n 0, 1) := by decide +kernel
theorem d_Checker_take_8 : decode b_Checker_take 8 = .ok (.getfield 45, 3) := by decide +kernel
theorem d_Checker_take_11 : decode b_Checker_take 11 = .ok (.aload_n 0, 1) := by decide +kernel
theorem d_Checker_take_12 : decode b_Checker_take 12 = .ok (.getfield 15, 3) := by decide +kernel
theorem d_Checker_take_15 : decode b_Checker_take 15 = .ok (.aload_n 0, 1) := by decide +kernel
theorem d_Checker_take_16 : decode b_Checker_take 16 = .ok (.getfield 42, 3) := by decide +kernel
theorem d_Checker_take_19 : decode b_Checker_take 19 = .ok (.iaload, 1) := by decide +kernel
theorem d_Checker_take_20 : decode b_Checker_take 20 = .ok (.if_icmp .le 16, 3) := by decide +kernel
theorem d_Checker_take_36 : decode b_Checker_take 36 = .ok (.aload_n 0, 1) := by decide +kernel
theorem d_Checker_take_37 : decode b_Checker_take 37 = .ok (.getfield 18, 3) := by decide +kernel
theorem d_Checker_take_40 : decode b_Checker_take 40 = .ok (.aload_n 0, 1) := by decide +kernel
theorem d_Checker_take_41 : decode b_Checker_take 41 = .ok (.getfield 42, 3) := by decide +kernel
theorem d_Checker_take_44 : decode b_Checker_take 44 = .ok (.baload, 1) := by decide +kernel
theorem d_Checker_take_45 : decode b_Checker_take 45 = .ok (.ifCond .eq 8, 3) := by decide +kernel
theorem d_Checker_take_48 : decode b_Checker_take 48 = .ok (.aload_n 0, 1) := by decide +kernel
theorem d_Checker_take_49 : decode b_Checker_take 49 = .ok (.iconst 1, 1) := by decide +kernel
theorem d_Checker_take_50 : decode b_Checker_take 50 = .ok (.putfield 26, 3) := by decide +kernel
theorem d_Checker_take_23 : decode b_Checker_take 23 = .ok (.aload_n 0, 1) := by decide +kernel
theorem d_Checker_take_24 : decode b_Checker_take 24 = .ok (.dup, 1) := by decide +kernel
theorem d_Checker_take_25 : decode b_Checker_take 25 = .ok (.getfield 45, 3) := by decide +kernel
theorem d_Checker_take_28 : decode b_Checker_take 28 = .ok (.iconst 1, 1) := by decide +kernel
theorem d_Checker_take_29 : decode b_Checker_take 29 = .ok (.isub, 1) := by decide +kernel
theorem d_Checker_take_30 : decode b_Checker_take 30 = .ok (.putfield 45, 3) := by decide +kernel
theorem d_Checker_take_33 : decode b_Checker_take 33 = .ok (.goto 20, 3) := by decide +kernel
theorem d_Checker_take_0 : decode b_Checker_take 0 = .ok (.iconst 0, 1) := by decide +kernel
theorem d_Checker_take_1 : decode b_Checker_take 1 = .ok (.istore_n 2, 1) := by decide +kernel
theorem d_Ops_given_0 : decode b_Ops_given 0 = .ok (.iload_n 0, 1) := by decide +kernel
theorem d_Ops_given_1 : decode b_Ops_given 1 = .ok (.invokestatic 16, 3) := by decide +kernel
theorem d_Ops_given_4 : decode b_Ops_given 4 = .ok (.ifCond .eq 11, 3) := by decide +kernel
theorem d_Ops_given_15 : decode b_Ops_given 15 = .ok (.iconst 0, 1) := by decide +kernel
theorem d_Ops_given_16 : decode b_Ops_given 16 = .ok (.ireturn, 1) := by decide +kernel
theorem d_Ops_given_7 : decode b_Ops_given 7 = .ok (.getstatic 23, 3) := by decide +kernel
theorem d_Ops_given_10 : decode b_Ops_given 10 = .ok (.iload_n 0, 1) := by decide +kernel
theorem d_Ops_given_11 : decode b_Ops_given 11 = .ok (.iaload, 1) := by decide +kernel
theorem d_Ops_given_12 : decode b_Ops_given 12 = .ok (.goto 4, 3) := by decide +kernel
theorem d_Checker_give_0 : decode b_Checker_give 0 = .ok (.aload_n 0, 1) := by decide +kernel
theorem d_Checker_give_1 : decode b_Checker_give 1 = .ok (.dup, 1) := by decide +kernel
theorem d_Checker_give_2 : decode b_Checker_give 2 = .ok (.getfield 45, 3) := by decide +kernel
theorem d_Checker_give_5 : decode b_Checker_give 5 = .ok (.iload_n 1, 1) := by decide +kernel
theorem d_Checker_give_6 : decode b_Checker_give 6 = .ok (.iadd, 1) := by decide +kernel
theorem d_Checker_give_7 : decode b_Checker_give 7 = .ok (.putfield 45, 3) := by decide +kernel
theorem d_Checker_give_10 : decode b_Checker_give 10 = .ok (.aload_n 0, 1) := by decide +kernel
theorem d_Checker_give_11 : decode b_Checker_give 11 = .ok (.getfield 45, 3) := by decide +kernel
theorem d_Checker_give_14 : decode b_Checker_give 14 = .ok (.bipush 10, 2) := by decide +kernel
theorem d_Checker_give_16 : decode b_Checker_give 16 = .ok (.if_icmp .le 8, 3) := by decide +kernel
theorem d_Checker_give_24 : decode b_Checker_give 24 = .ok (.return_, 1) := by decide +kernel
theorem d_Checker_give_19 : decode b_Checker_give 19 = .ok (.aload_n 0, 1) := by decide +kernel
theorem d_Checker_give_20 : decode b_Checker_give 20 = .ok (.iconst 1, 1) := by decide +kernel
theorem d_Checker_give_21 : decode b_Checker_give 21 = .ok (.putfield 26, 3) := by decide +kernel
theorem d_Program_localCount_0 : decode b_Program_localCount 0 = .ok (.aload_n 0, 1) := by decide +kernel
theorem d_Program_localCount_1 : decode b_Program_localCount 1 = .ok (.getfield 39, 3) := by decide +kernel
theorem d_Program_localCount_4 : decode b_Program_localCount 4 = .ok (.iload_n 1, 1) := by decide +kernel
theorem d_Program_localCount_5 : decode b_Program_localCount 5 = .ok (.iaload, 1) := by decide +kernel
theorem d_Program_localCount_6 : decode b_Program_localCount 6 = .ok (.aload_n 0, 1) := by decide +kernel
theorem d_Program_localCount_7 : decode b_Program_localCount 7 = .ok (.getfield 42, 3) := by decide +kernel
theorem d_Program_localCount_10 : decode b_Program_localCount 10 = .ok (.iload_n 1, 1) := by decide +kernel
theorem d_Program_localCount_11 : decode b_Program_localCount 11 = .ok (.iaload, 1) := by decide +kernel
theorem d_Program_localCount_12 : decode b_Program_localCount 12 = .ok (.iadd, 1) := by decide +kernel
theorem d_Program_localCount_13 : decode b_Program_localCount 13 = .ok (.ireturn, 1) := by decide +kernel
theorem d_Checker_checkPlain_40 : decode b_Checker_checkPlain 40 = .ok (.aload_n 0, 1) := by decide +kernel
theorem d_Checker_checkPlain_41 : decode b_Checker_checkPlain 41 = .ok (.iload_n 2, 1) := by decide +kernel
theorem d_Checker_checkPlain_42 : decode b_Checker_checkPlain 42 = .ok (.invokestatic 121, 3) := by decide +kernel
theorem d_Checker_checkPlain_45 : decode b_Checker_checkPlain 45 = .ok (.invokevirtual 64, 3) := by decide +kernel
theorem d_Checker_checkPlain_48 : decode b_Checker_checkPlain 48 = .ok (.aload_n 0, 1) := by decide +kernel
theorem d_Checker_checkPlain_49 : decode b_Checker_checkPlain 49 = .ok (.iload_n 2, 1) := by decide +kernel
theorem d_Checker_checkPlain_50 : decode b_Checker_checkPlain 50 = .ok (.invokestatic 124, 3) := by decide +kernel
theorem d_Checker_checkPlain_53 : decode b_Checker_checkPlain 53 = .ok (.invokevirtual 105, 3) := by decide +kernel
theorem d_Checker_checkPlain_56 : decode b_Checker_checkPlain 56 = .ok (.return_, 1) := by decide +kernel
theorem d_Checker_checkPlain_0 : decode b_Checker_checkPlain 0 = .ok (.iload_n 2, 1) := by decide +kernel
theorem d_Checker_checkPlain_1 : decode b_Checker_checkPlain 1 = .ok (.invokestatic 114, 3) := by decide +kernel
theorem d_Checker_checkPlain_4 : decode b_Checker_checkPlain 4 = .ok (.ifCond .eq 36, 3) := by decide +kernel
theorem d_Checker_checkPlain_7 : decode b_Checker_checkPlain 7 = .ok (.aload_n 0, 1) := by decide +kernel
theorem d_Checker_checkPlain_8 : decode b_Checker_checkPlain 8 = .ok (.getfield 22, 3) := by decide +kernel
theorem d_Checker_checkPlain_11 : decode b_Checker_checkPlain 11 = .ok (.getfield 85, 3) := by decide +kernel
theorem d_Checker_checkPlain_14 : decode b_Checker_checkPlain 14 = .ok (.iload_n 1, 1) := by decide +kernel
theorem d_Checker_checkPlain_15 : decode b_Checker_checkPlain 15 = .ok (.iaload, 1) := by decide +kernel
theorem d_Checker_checkPlain_16 : decode b_Checker_checkPlain 16 = .ok (.aload_n 0, 1) := by decide +kernel
theorem d_Checker_checkPlain_17 : decode b_Checker_checkPlain 17 = .ok (.getfield 22, 3) := by decide +kernel
theorem d_Checker_checkPlain_20 : decode b_Checker_checkPlain 20 = .ok (.aload_n 0, 1) := by decide +kernel
theorem d_Checker_checkPlain_21 : decode b_Checker_checkPlain 21 = .ok (.getfield 22, 3) := by decide +kernel
theorem d_Checker_checkPlain_24 : decode b_Checker_checkPlain 24 = .ok (.getfield 39, 3) := by decide +kernel
theorem d_Checker_checkPlain_27 : decode b_Checker_checkPlain 27 = .ok (.iload_n 1, 1) := by decide +kernel
theorem d_Checker_checkPlain_28 : decode b_Checker_checkPlain 28 = .ok (.iaload, 1) := by decide +kernel
theorem d_Checker_checkPlain_29 : decode b_Checker_checkPlain 29 = .ok (.invokevirtual 118, 3) := by decide +kernel
theorem d_Checker_checkPlain_32 : decode b_Checker_checkPlain 32 = .ok (.if_icmp .lt 8, 3) := by decide +kernel
theorem d_Checker_checkPlain_35 : decode b_Checker_checkPlain 35 = .ok (.aload_n 0, 1) := by decide +kernel
theorem d_Checker_checkPlain_36 : decode b_Checker_checkPlain 36 = .ok (.iconst 1, 1) := by decide +kernel
theorem d_Checker_checkPlain_37 : decode b_Checker_checkPlain 37 = .ok (.putfield 26, 3) := by decide +kernel
theorem d_Checker_checkCall_0 : decode b_Checker_checkCall 0 = .ok (.iload_n 1, 1) := by decide +kernel
theorem d_Checker_checkCall_1 : decode b_Checker_checkCall 1 = .ok (.aload_n 0, 1) := by decide +kernel
theorem d_Checker_checkCall_2 : decode b_Checker_checkCall 2 = .ok (.getfield 22, 3) := by decide +kernel
theorem d_Checker_checkCall_5 : decode b_Checker_checkCall 5 = .ok (.getfield 108, 3) := by decide +kernel
theorem d_Checker_checkCall_8 : decode b_Checker_checkCall 8 = .ok (.if_icmp .lt 9, 3) := by decide +kernel
theorem d_Checker_checkCall_17 : decode b_Checker_checkCall 17 = .ok (.aload_n 0, 1) := by decide +kernel
theorem d_Checker_checkCall_18 : decode b_Checker_checkCall 18 = .ok (.aload_n 0, 1) := by decide +kernel
theorem d_Checker_checkCall_19 : decode b_Checker_checkCall 19 = .ok (.getfield 22, 3) := by decide +kernel
theorem d_Checker_checkCall_22 : decode b_Checker_checkCall 22 = .ok (.getfield 111, 3) := by decide +kernel
theorem d_Checker_checkCall_25 : decode b_Checker_checkCall 25 = .ok (.iload_n 1, 1) := by decide +kernel
theorem d_Checker_checkCall_26 : decode b_Checker_checkCall 26 = .ok (.iaload, 1) := by decide +kernel
theorem d_Checker_checkCall_27 : decode b_Checker_checkCall 27 = .ok (.invokevirtual 64, 3) := by decide +kernel
theorem d_Checker_checkCall_30 : decode b_Checker_checkCall 30 = .ok (.aload_n 0, 1) := by decide +kernel
theorem d_Checker_checkCall_31 : decode b_Checker_checkCall 31 = .ok (.aload_n 0, 1) := by decide +kernel
theorem d_Checker_checkCall_32 : decode b_Checker_checkCall 32 = .ok (.getfield 22, 3) := by decide +kernel
theorem d_Checker_checkCall_35 : decode b_Checker_checkCall 35 = .ok (.getfield 58, 3) := by decide +kernel
theorem d_Checker_checkCall_38 : decode b_Checker_checkCall 38 = .ok (.iload_n 1, 1) := by decide +kernel
theorem d_Checker_checkCall_39 : decode b_Checker_checkCall 39 = .ok (.iaload, 1) := by decide +kernel
theorem d_Checker_checkCall_40 : decode b_Checker_checkCall 40 = .ok (.invokevirtual 105, 3) := by decide +kernel
theorem d_Checker_checkCall_43 : decode b_Checker_checkCall 43 = .ok (.return_, 1) := by decide +kernel
theorem d_Checker_checkCall_11 : decode b_Checker_checkCall 11 = .ok (.aload_n 0, 1) := by decide +kernel
theorem d_Checker_checkCall_12 : decode b_Checker_checkCall 12 = .ok (.iconst 1, 1) := by decide +kernel
theorem d_Checker_checkCall_13 : decode b_Checker_checkCall 13 = .ok (.putfield 26, 3) := by decide +kernel
theorem d_Checker_checkCall_16 : decode b_Checker_checkCall 16 = .ok (.return_, 1) := by decide +kernel
theorem d_Checker_deaden_0 : decode b_Checker_deaden 0 = .ok (.aload_n 0, 1) := by decide +kernel
theorem d_Checker_deaden_1 : decode b_Checker_deaden 1 = .ok (.getfield 18, 3) := by decide +kernel
theorem d_Checker_deaden_4 : decode b_Checker_deaden 4 = .ok (.aload_n 0, 1) := by decide +kernel
theorem d_Checker_deaden_5 : decode b_Checker_deaden 5 = .ok (.getfield 42, 3) := by decide +kernel
theorem d_Checker_deaden_8 : decode b_Checker_deaden 8 = .ok (.iconst 0, 1) := by decide +kernel
theorem d_Checker_deaden_9 : decode b_Checker_deaden 9 = .ok (.bastore, 1) := by decide +kernel
theorem d_Checker_deaden_10 : decode b_Checker_deaden 10 = .ok (.aload_n 0, 1) := by decide +kernel
theorem d_Checker_deaden_11 : decode b_Checker_deaden 11 = .ok (.aload_n 0, 1) := by decide +kernel
theorem d_Checker_deaden_12 : decode b_Checker_deaden 12 = .ok (.getfield 15, 3) := by decide +kernel
theorem d_Checker_deaden_15 : decode b_Checker_deaden 15 = .ok (.aload_n 0, 1) := by decide +kernel
theorem d_Checker_deaden_16 : decode b_Checker_deaden 16 = .ok (.getfield 42, 3) := by decide +kernel
theorem d_Checker_deaden_19 : decode b_Checker_deaden 19 = .ok (.iaload, 1) := by decide +kernel
theorem d_Checker_deaden_20 : decode b_Checker_deaden 20 = .ok (.putfield 45, 3) := by decide +kernel
theorem d_Checker_deaden_23 : decode b_Checker_deaden 23 = .ok (.return_, 1) := by decide +kernel
theorem d_Program_setJump_0 : decode b_Program_setJump 0 = .ok (.aload_n 0, 1) := by decide +kernel
theorem d_Program_setJump_1 : decode b_Program_setJump 1 = .ok (.getfield 27, 3) := by decide +kernel
theorem d_Program_setJump_4 : decode b_Program_setJump 4 = .ok (.iload_n 1, 1) := by decide +kernel
theorem d_Program_setJump_5 : decode b_Program_setJump 5 = .ok (.iload_n 2, 1) := by decide +kernel
theorem d_Program_setJump_6 : decode b_Program_setJump 6 = .ok (.iastore, 1) := by decide +kernel
theorem d_Program_setJump_7 : decode b_Program_setJump 7 = .ok (.aload_n 0, 1) := by decide +kernel
theorem d_Program_setJump_8 : decode b_Program_setJump 8 = .ok (.getfield 30, 3) := by decide +kernel
theorem d_Program_setJump_11 : decode b_Program_setJump 11 = .ok (.iload_n 1, 1) := by decide +kernel
theorem d_Program_setJump_12 : decode b_Program_setJump 12 = .ok (.iload_n 3, 1) := by decide +kernel
theorem d_Program_setJump_13 : decode b_Program_setJump 13 = .ok (.iastore, 1) := by decide +kernel
theorem d_Program_setJump_14 : decode b_Program_setJump 14 = .ok (.aload_n 0, 1) := by decide +kernel
theorem d_Program_setJump_15 : decode b_Program_setJump 15 = .ok (.getfield 33, 3) := by decide +kernel
theorem d_Program_setJump_18 : decode b_Program_setJump 18 = .ok (.iload_n 1, 1) := by decide +kernel
theorem d_Program_setJump_19 : decode b_Program_setJump 19 = .ok (.iload 4, 2) := by decide +kernel
theorem d_Program_setJump_21 : decode b_Program_setJump 21 = .ok (.iastore, 1) := by decide +kernel
theorem d_Program_setJump_22 : decode b_Program_setJump 22 = .ok (.return_, 1) := by decide +kernel
theorem d_Checker_checkBranch_138 : decode b_Checker_checkBranch 138 = .ok (.aload_n 0, 1) := by decide +kernel
theorem d_Checker_checkBranch_139 : decode b_Checker_checkBranch 139 = .ok (.getfield 22, 3) := by decide +kernel
theorem d_Checker_checkBranch_142 : decode b_Checker_checkBranch 142 = .ok (.iload_n 1, 1) := by decide +kernel
theorem d_Checker_checkBranch_143 : decode b_Checker_checkBranch 143 = .ok (.iload 6, 2) := by decide +kernel
theorem d_Checker_checkBranch_145 : decode b_Checker_checkBranch 145 = .ok (.aload_n 0, 1) := by decide +kernel
theorem d_Checker_checkBranch_146 : decode b_Checker_checkBranch 146 = .ok (.getfield 15, 3) := by decide +kernel
theorem d_Checker_checkBranch_149 : decode b_Checker_checkBranch 149 = .ok (.iload_n 3, 1) := by decide +kernel
theorem d_Checker_checkBranch_150 : decode b_Checker_checkBranch 150 = .ok (.iaload, 1) := by decide +kernel
theorem d_Checker_checkBranch_151 : decode b_Checker_checkBranch 151 = .ok (.iload 5, 2) := by decide +kernel
theorem d_Checker_checkBranch_153 : decode b_Checker_checkBranch 153 = .ok (.invokevirtual 71, 3) := by decide +kernel
theorem d_Checker_checkBranch_156 : decode b_Checker_checkBranch 156 = .ok (.return_, 1) := by decide +kernel
theorem d_Checker_checkBranch_112 : decode b_Checker_checkBranch 112 = .ok (.aload_n 0, 1) := by decide +kernel
theorem d_Checker_checkBranch_113 : decode b_Checker_checkBranch 113 = .ok (.iload 5, 2) := by decide +kernel
theorem d_Checker_checkBranch_115 : decode b_Checker_checkBranch 115 = .ok (.invokevirtual 64, 3) := by decide +kernel
theorem d_Checker_checkBranch_118 : decode b_Checker_checkBranch 118 = .ok (.aload_n 0, 1) := by decide +kernel
theorem d_Checker_checkBranch_119 : decode b_Checker_checkBranch 119 = .ok (.getfield 22, 3) := by decide +kernel
theorem d_Checker_checkBranch_122 : decode b_Checker_checkBranch 122 = .ok (.getfield 55, 3) := by decide +kernel
theorem d_Checker_checkBranch_125 : decode b_Checker_checkBranch 125 = .ok (.iload_n 1, 1) := by decide +kernel
theorem d_Checker_checkBranch_126 : decode b_Checker_checkBranch 126 = .ok (.iaload, 1) := by decide +kernel
theorem d_Checker_checkBranch_127 : decode b_Checker_checkBranch 127 = .ok (.bipush 7, 2) := by decide +kernel
theorem d_Checker_checkBranch_129 : decode b_Checker_checkBranch 129 = .ok (.if_icmp .ne 9, 3) := by decide +kernel
theorem d_Checker_checkBranch_132 : decode b_Checker_checkBranch 132 = .ok (.aload_n 0, 1) := by decide +kernel
theorem d_Checker_checkBranch_133 : decode b_Checker_checkBranch 133 = .ok (.iload 5, 2) := by decide +kernel
theorem d_Checker_checkBranch_135 : decode b_Checker_checkBranch 135 = .ok (.invokevirtual 105, 3) := by decide +kernel
theorem d_Checker_checkBranch_108 : decode b_Checker_checkBranch 108 = .ok (.iconst 1, 1) := by decide +kernel
theorem d_Checker_checkBranch_109 : decode b_Checker_checkBranch 109 = .ok (.iadd, 1) := by decide +kernel
theorem d_Checker_checkBranch_110 : decode b_Checker_checkBranch 110 = .ok (.istore 6, 2) := by decide +kernel
theorem d_Checker_checkBranch_86 : decode b_Checker_checkBranch 86 = .ok (.istore 5, 2) := by decide +kernel
theorem d_Checker_checkBranch_88 : decode b_Checker_checkBranch 88 = .ok (.iload 7, 2) := by decide +kernel
theorem d_Checker_checkBranch_90 : decode b_Checker_checkBranch 90 = .ok (.ifCond .eq 8, 3) := by decide +kernel
theorem d_Checker_checkBranch_98 : decode b_Checker_checkBranch 98 = .ok (.aload_n 0, 1) := by decide +kernel
theorem d_Checker_checkBranch_99 : decode b_Checker_checkBranch 99 = .ok (.getfield 22, 3) := by decide +kernel
theorem d_Checker_checkBranch_102 : decode b_Checker_checkBranch 102 = .ok (.getfield 97, 3) := by decide +kernel
theorem d_Checker_checkBranch_105 : decode b_Checker_checkBranch 105 = .ok (.iload 4, 2) := by decide +kernel
theorem d_Checker_checkBranch_107 : decode b_Checker_checkBranch 107 = .ok (.iaload, 1) := by decide +kernel
theorem d_Checker_checkBranch_93 : decode b_Checker_checkBranch 93 = .ok (.iload 4, 2) := by decide +kernel
theorem d_Checker_checkBranch_95 : decode b_Checker_checkBranch 95 = .ok (.goto 13, 3) := by decide +kernel
theorem d_Checker_checkBranch_65 : decode b_Checker_checkBranch 65 = .ok (.istore 7, 2) := by decide +kernel
theorem d_Checker_checkBranch_67 : decode b_Checker_checkBranch 67 = .ok (.iload 7, 2) := by decide +kernel
theorem d_Checker_checkBranch_69 : decode b_Checker_checkBranch 69 = .ok (.ifCond .eq 7, 3) := by decide +kernel
theorem d_Checker_checkBranch_76 : decode b_Checker_checkBranch 76 = .ok (.aload_n 0, 1) := by decide +kernel
theorem d_Checker_checkBranch_77 : decode b_Checker_checkBranch 77 = .ok (.getfield 22, 3) := by decide +kernel
theorem d_Checker_checkBranch_80 : decode b_Checker_checkBranch 80 = .ok (.getfield 85, 3) := by decide +kernel
theorem d_Checker_checkBranch_83 : decode b_Checker_checkBranch 83 = .ok (.iload 4, 2) := by decide +kernel
theorem d_Checker_checkBranch_85 : decode b_Checker_checkBranch 85 = .ok (.iaload, 1) := by decide +kernel
theorem d_Checker_checkBranch_72 : decode b_Checker_checkBranch 72 = .ok (.iconst 0, 1) := by decide +kernel
theorem d_Checker_checkBranch_73 : decode b_Checker_checkBranch 73 = .ok (.goto 13, 3) := by decide +kernel
theorem d_Checker_checkBranch_0 : decode b_Checker_checkBranch 0 = .ok (.aload_n 0, 1) := by decide +kernel
theorem d_Checker_checkBranch_1 : decode b_Checker_checkBranch 1 = .ok (.getfield 42, 3) := by decide +kernel
theorem d_Checker_checkBranch_4 : decode b_Checker_checkBranch 4 = .ok (.aload_n 0, 1) := by decide +kernel
theorem d_Checker_checkBranch_5 : decode b_Checker_checkBranch 5 = .ok (.getfield 22, 3) := by decide +kernel
theorem d_Checker_checkBranch_8 : decode b_Checker_checkBranch 8 = .ok (.getfield 85, 3) := by decide +kernel
theorem d_Checker_checkBranch_11 : decode b_Checker_checkBranch 11 = .ok (.iload_n 1, 1) := by decide +kernel
theorem d_Checker_checkBranch_12 : decode b_Checker_checkBranch 12 = .ok (.iaload, 1) := by decide +kernel
theorem d_Checker_checkBranch_13 : decode b_Checker_checkBranch 13 = .ok (.isub, 1) := by decide +kernel
theorem d_Checker_checkBranch_14 : decode b_Checker_checkBranch 14 = .ok (.istore_n 3, 1) := by decide +kernel
theorem d_Checker_checkBranch_15 : decode b_Checker_checkBranch 15 = .ok (.iload_n 3, 1) := by decide +kernel
theorem d_Checker_checkBranch_16 : decode b_Checker_checkBranch 16 = .ok (.ifCond .ge 9, 3) := by decide +kernel
theorem d_Checker_checkBranch_25 : decode b_Checker_checkBranch 25 = .ok (.aload_n 0, 1) := by decide +kernel
theorem d_Checker_checkBranch_26 : decode b_Checker_checkBranch 26 = .ok (.getfield 9, 3) := by decide +kernel
theorem d_Checker_checkBranch_29 : decode b_Checker_checkBranch 29 = .ok (.iload_n 3, 1) := by decide +kernel
theorem d_Checker_checkBranch_30 : decode b_Checker_checkBranch 30 = .ok (.iaload, 1) := by decide +kernel
theorem d_Checker_checkBranch_31 : decode b_Checker_checkBranch 31 = .ok (.istore 4, 2) := by decide +kernel
theorem d_Checker_checkBranch_33 : decode b_Checker_checkBranch 33 = .ok (.iload_n 2, 1) := by decide +kernel
theorem d_Checker_checkBranch_34 : decode b_Checker_checkBranch 34 = .ok (.istore 5, 2) := by decide +kernel
theorem d_Checker_checkBranch_36 : decode b_Checker_checkBranch 36 = .ok (.iconst (-1), 1) := by decide +kernel
theorem d_Checker_checkBranch_37 : decode b_Checker_checkBranch 37 = .ok (.istore 6, 2) := by decide +kernel
theorem d_Checker_checkBranch_39 : decode b_Checker_checkBranch 39 = .ok (.iload 4, 2) := by decide +kernel
theorem d_Checker_checkBranch_41 : decode b_Checker_checkBranch 41 = .ok (.bipush (-3), 2) := by decide +kernel
theorem d_Checker_checkBranch_43 : decode b_Checker_checkBranch 43 = .ok (.if_icmp .eq 69, 3) := by decide +kernel
theorem d_Checker_checkBranch_46 : decode b_Checker_checkBranch 46 = .ok (.aload_n 0, 1) := by decide +kernel
theorem d_Checker_checkBranch_47 : decode b_Checker_checkBranch 47 = .ok (.getfield 22, 3) := by decide +kernel
theorem d_Checker_checkBranch_50 : decode b_Checker_checkBranch 50 = .ok (.getfield 55, 3) := by decide +kernel
theorem d_Checker_checkBranch_53 : decode b_Checker_checkBranch 53 = .ok (.iload 4, 2) := by decide +kernel
theorem d_Checker_checkBranch_55 : decode b_Checker_checkBranch 55 = .ok (.iaload, 1) := by decide +kernel
theorem d_Checker_checkBranch_56 : decode b_Checker_checkBranch 56 = .ok (.iconst 2, 1) := by decide +kernel
theorem d_Checker_checkBranch_57 : decode b_Checker_checkBranch 57 = .ok (.if_icmp .ne 7, 3) := by decide +kernel
theorem d_Checker_checkBranch_64 : decode b_Checker_checkBranch 64 = .ok (.iconst 0, 1) := by decide +kernel
theorem d_Checker_checkBranch_60 : decode b_Checker_checkBranch 60 = .ok (.iconst 1, 1) := by decide +kernel
theorem d_Checker_checkBranch_61 : decode b_Checker_checkBranch 61 = .ok (.goto 4, 3) := by decide +kernel
theorem d_Checker_checkBranch_19 : decode b_Checker_checkBranch 19 = .ok (.aload_n 0, 1) := by decide +kernel
theorem d_Checker_checkBranch_20 : decode b_Checker_checkBranch 20 = .ok (.iconst 1, 1) := by decide +kernel
theorem d_Checker_checkBranch_21 : decode b_Checker_checkBranch 21 = .ok (.putfield 26, 3) := by decide +kernel
theorem d_Checker_checkBranch_24 : decode b_Checker_checkBranch 24 = .ok (.return_, 1) := by decide +kernel
theorem d_Checker_mustBeAtBase_0 : decode b_Checker_mustBeAtBase 0 = .ok (.aload_n 0, 1) := by decide +kernel
theorem d_Checker_mustBeAtBase_1 : decode b_Checker_mustBeAtBase 1 = .ok (.getfield 45, 3) := by decide +kernel
theorem d_Checker_mustBeAtBase_4 : decode b_Checker_mustBeAtBase 4 = .ok (.aload_n 0, 1) := by decide +kernel
theorem d_Checker_mustBeAtBase_5 : decode b_Checker_mustBeAtBase 5 = .ok (.getfield 15, 3) := by decide +kernel
theorem d_Checker_mustBeAtBase_8 : decode b_Checker_mustBeAtBase 8 = .ok (.aload_n 0, 1) := by decide +kernel
theorem d_Checker_mustBeAtBase_9 : decode b_Checker_mustBeAtBase 9 = .ok (.getfield 42, 3) := by decide +kernel
theorem d_Checker_mustBeAtBase_12 : decode b_Checker_mustBeAtBase 12 = .ok (.iaload, 1) := by decide +kernel
theorem d_Checker_mustBeAtBase_13 : decode b_Checker_mustBeAtBase 13 = .ok (.if_icmp .eq 8, 3) := by decide +kernel
theorem d_Checker_mustBeAtBase_21 : decode b_Checker_mustBeAtBase 21 = .ok (.return_, 1) := by decide +kernel
theorem d_Checker_mustBeAtBase_16 : decode b_Checker_mustBeAtBase 16 = .ok (.aload_n 0, 1) := by decide +kernel
theorem d_Checker_mustBeAtBase_17 : decode b_Checker_mustBeAtBase 17 = .ok (.iconst 1, 1) := by decide +kernel
theorem d_Checker_mustBeAtBase_18 : decode b_Checker_mustBeAtBase 18 = .ok (.putfield 26, 3) := by decide +kernel
theorem d_Checker_checkEnd_119 : decode b_Checker_checkEnd 119 = .ok (.aload_n 0, 1) := by decide +kernel
theorem d_Checker_checkEnd_120 : decode b_Checker_checkEnd 120 = .ok (.iload 5, 2) := by decide +kernel
theorem d_Checker_checkEnd_122 : decode b_Checker_checkEnd 122 = .ok (.invokevirtual 105, 3) := by decide +kernel
theorem d_Checker_checkEnd_125 : decode b_Checker_checkEnd 125 = .ok (.aload_n 0, 1) := by decide +kernel
theorem d_Checker_checkEnd_126 : decode b_Checker_checkEnd 126 = .ok (.getfield 22, 3) := by decide +kernel
theorem d_Checker_checkEnd_129 : decode b_Checker_checkEnd 129 = .ok (.iload_n 1, 1) := by decide +kernel
theorem d_Checker_checkEnd_130 : decode b_Checker_checkEnd 130 = .ok (.iload_n 1, 1) := by decide +kernel
theorem d_Checker_checkEnd_131 : decode b_Checker_checkEnd 131 = .ok (.iconst 1, 1) := by decide +kernel
theorem d_Checker_checkEnd_132 : decode b_Checker_checkEnd 132 = .ok (.iadd, 1) := by decide +kernel
theorem d_Checker_checkEnd_133 : decode b_Checker_checkEnd 133 = .ok (.iload 4, 2) := by decide +kernel
theorem d_Checker_checkEnd_135 : decode b_Checker_checkEnd 135 = .ok (.iload 5, 2) := by decide +kernel
theorem d_Checker_checkEnd_137 : decode b_Checker_checkEnd 137 = .ok (.invokevirtual 71, 3) := by decide +kernel
theorem d_Checker_checkEnd_140 : decode b_Checker_checkEnd 140 = .ok (.return_, 1) := by decide +kernel
