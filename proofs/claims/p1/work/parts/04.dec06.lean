theorem d_RangeTellerModel_pass_147 : decode b_RangeTellerModel_pass 147 = .ok (.aload_n 0, 1) := by decide +kernel
theorem d_RangeTellerModel_pass_148 : decode b_RangeTellerModel_pass 148 = .ok (.getfield 135, 3) := by decide +kernel
theorem d_RangeTellerModel_pass_151 : decode b_RangeTellerModel_pass 151 = .ok (.iload 4, 2) := by decide +kernel
theorem d_RangeTellerModel_pass_153 : decode b_RangeTellerModel_pass 153 = .ok (.iaload, 1) := by decide +kernel
theorem d_RangeTellerModel_pass_105 : decode b_RangeTellerModel_pass 105 = .ok (.aload_n 0, 1) := by decide +kernel
theorem d_RangeTellerModel_pass_106 : decode b_RangeTellerModel_pass 106 = .ok (.getfield 96, 3) := by decide +kernel
theorem d_RangeTellerModel_pass_109 : decode b_RangeTellerModel_pass 109 = .ok (.iload 5, 2) := by decide +kernel
theorem d_RangeTellerModel_pass_111 : decode b_RangeTellerModel_pass 111 = .ok (.aload_n 0, 1) := by decide +kernel
theorem d_RangeTellerModel_pass_112 : decode b_RangeTellerModel_pass 112 = .ok (.getfield 90, 3) := by decide +kernel
theorem d_RangeTellerModel_pass_115 : decode b_RangeTellerModel_pass 115 = .ok (.iload_n 1, 1) := by decide +kernel
theorem d_RangeTellerModel_pass_116 : decode b_RangeTellerModel_pass 116 = .ok (.baload, 1) := by decide +kernel
theorem d_RangeTellerModel_pass_117 : decode b_RangeTellerModel_pass 117 = .ok (.ifCond .eq 30, 3) := by decide +kernel
theorem d_RangeTellerModel_pass_120 : decode b_RangeTellerModel_pass 120 = .ok (.aload_n 0, 1) := by decide +kernel
theorem d_RangeTellerModel_pass_121 : decode b_RangeTellerModel_pass 121 = .ok (.getfield 96, 3) := by decide +kernel
theorem d_RangeTellerModel_pass_124 : decode b_RangeTellerModel_pass 124 = .ok (.iload 5, 2) := by decide +kernel
theorem d_RangeTellerModel_pass_126 : decode b_RangeTellerModel_pass 126 = .ok (.iaload, 1) := by decide +kernel
theorem d_RangeTellerModel_pass_127 : decode b_RangeTellerModel_pass 127 = .ok (.aload_n 0, 1) := by decide +kernel
theorem d_RangeTellerModel_pass_128 : decode b_RangeTellerModel_pass 128 = .ok (.getfield 135, 3) := by decide +kernel
theorem d_RangeTellerModel_pass_131 : decode b_RangeTellerModel_pass 131 = .ok (.iload 4, 2) := by decide +kernel
theorem d_RangeTellerModel_pass_133 : decode b_RangeTellerModel_pass 133 = .ok (.iaload, 1) := by decide +kernel
theorem d_RangeTellerModel_pass_134 : decode b_RangeTellerModel_pass 134 = .ok (.if_icmp .ge 13, 3) := by decide +kernel
theorem d_RangeTellerModel_pass_137 : decode b_RangeTellerModel_pass 137 = .ok (.aload_n 0, 1) := by decide +kernel
theorem d_RangeTellerModel_pass_138 : decode b_RangeTellerModel_pass 138 = .ok (.getfield 96, 3) := by decide +kernel
theorem d_RangeTellerModel_pass_141 : decode b_RangeTellerModel_pass 141 = .ok (.iload 5, 2) := by decide +kernel
theorem d_RangeTellerModel_pass_143 : decode b_RangeTellerModel_pass 143 = .ok (.iaload, 1) := by decide +kernel
theorem d_RangeTellerModel_pass_144 : decode b_RangeTellerModel_pass 144 = .ok (.goto 10, 3) := by decide +kernel
theorem d_RangeTellerModel_pass_103 : decode b_RangeTellerModel_pass 103 = .ok (.iconst 1, 1) := by decide +kernel
theorem d_RangeTellerModel_pass_104 : decode b_RangeTellerModel_pass 104 = .ok (.istore_n 2, 1) := by decide +kernel
theorem d_RangeTellerModel_pass_25 : decode b_RangeTellerModel_pass 25 = .ok (.iload 4, 2) := by decide +kernel
theorem d_RangeTellerModel_pass_27 : decode b_RangeTellerModel_pass 27 = .ok (.iload_n 3, 1) := by decide +kernel
theorem d_RangeTellerModel_pass_28 : decode b_RangeTellerModel_pass 28 = .ok (.if_icmp .ge 224, 3) := by decide +kernel
theorem d_RangeTellerModel_pass_252 : decode b_RangeTellerModel_pass 252 = .ok (.iconst 0, 1) := by decide +kernel
theorem d_RangeTellerModel_pass_253 : decode b_RangeTellerModel_pass 253 = .ok (.istore 4, 2) := by decide +kernel
theorem d_RangeTellerModel_pass_31 : decode b_RangeTellerModel_pass 31 = .ok (.bipush 10, 2) := by decide +kernel
theorem d_RangeTellerModel_pass_33 : decode b_RangeTellerModel_pass 33 = .ok (.iload_n 1, 1) := by decide +kernel
theorem d_RangeTellerModel_pass_34 : decode b_RangeTellerModel_pass 34 = .ok (.imul, 1) := by decide +kernel
theorem d_RangeTellerModel_pass_35 : decode b_RangeTellerModel_pass 35 = .ok (.iload 4, 2) := by decide +kernel
theorem d_RangeTellerModel_pass_37 : decode b_RangeTellerModel_pass 37 = .ok (.iadd, 1) := by decide +kernel
theorem d_RangeTellerModel_pass_38 : decode b_RangeTellerModel_pass 38 = .ok (.istore 5, 2) := by decide +kernel
theorem d_RangeTellerModel_pass_40 : decode b_RangeTellerModel_pass 40 = .ok (.aload_n 0, 1) := by decide +kernel
theorem d_RangeTellerModel_pass_41 : decode b_RangeTellerModel_pass 41 = .ok (.getfield 90, 3) := by decide +kernel
theorem d_RangeTellerModel_pass_44 : decode b_RangeTellerModel_pass 44 = .ok (.iload_n 1, 1) := by decide +kernel
theorem d_RangeTellerModel_pass_45 : decode b_RangeTellerModel_pass 45 = .ok (.baload, 1) := by decide +kernel
theorem d_RangeTellerModel_pass_46 : decode b_RangeTellerModel_pass 46 = .ok (.ifCond .eq 57, 3) := by decide +kernel
theorem d_RangeTellerModel_pass_49 : decode b_RangeTellerModel_pass 49 = .ok (.aload_n 0, 1) := by decide +kernel
theorem d_RangeTellerModel_pass_50 : decode b_RangeTellerModel_pass 50 = .ok (.getfield 135, 3) := by decide +kernel
theorem d_RangeTellerModel_pass_53 : decode b_RangeTellerModel_pass 53 = .ok (.iload 4, 2) := by decide +kernel
theorem d_RangeTellerModel_pass_55 : decode b_RangeTellerModel_pass 55 = .ok (.iaload, 1) := by decide +kernel
theorem d_RangeTellerModel_pass_56 : decode b_RangeTellerModel_pass 56 = .ok (.aload_n 0, 1) := by decide +kernel
theorem d_RangeTellerModel_pass_57 : decode b_RangeTellerModel_pass 57 = .ok (.getfield 96, 3) := by decide +kernel
theorem d_RangeTellerModel_pass_60 : decode b_RangeTellerModel_pass 60 = .ok (.iload 5, 2) := by decide +kernel
theorem d_RangeTellerModel_pass_62 : decode b_RangeTellerModel_pass 62 = .ok (.iaload, 1) := by decide +kernel
theorem d_RangeTellerModel_pass_63 : decode b_RangeTellerModel_pass 63 = .ok (.if_icmp .lt 40, 3) := by decide +kernel
theorem d_RangeTellerModel_pass_66 : decode b_RangeTellerModel_pass 66 = .ok (.aload_n 0, 1) := by decide +kernel
theorem d_RangeTellerModel_pass_67 : decode b_RangeTellerModel_pass 67 = .ok (.getfield 138, 3) := by decide +kernel
theorem d_RangeTellerModel_pass_70 : decode b_RangeTellerModel_pass 70 = .ok (.iload 4, 2) := by decide +kernel
theorem d_RangeTellerModel_pass_72 : decode b_RangeTellerModel_pass 72 = .ok (.iaload, 1) := by decide +kernel
theorem d_RangeTellerModel_pass_73 : decode b_RangeTellerModel_pass 73 = .ok (.aload_n 0, 1) := by decide +kernel
theorem d_RangeTellerModel_pass_74 : decode b_RangeTellerModel_pass 74 = .ok (.getfield 99, 3) := by decide +kernel
theorem d_RangeTellerModel_pass_77 : decode b_RangeTellerModel_pass 77 = .ok (.iload 5, 2) := by decide +kernel
theorem d_RangeTellerModel_pass_79 : decode b_RangeTellerModel_pass 79 = .ok (.iaload, 1) := by decide +kernel
theorem d_RangeTellerModel_pass_80 : decode b_RangeTellerModel_pass 80 = .ok (.if_icmp .gt 23, 3) := by decide +kernel
theorem d_RangeTellerModel_pass_83 : decode b_RangeTellerModel_pass 83 = .ok (.aload_n 0, 1) := by decide +kernel
theorem d_RangeTellerModel_pass_84 : decode b_RangeTellerModel_pass 84 = .ok (.getfield 141, 3) := by decide +kernel
theorem d_RangeTellerModel_pass_87 : decode b_RangeTellerModel_pass 87 = .ok (.iload 4, 2) := by decide +kernel
theorem d_RangeTellerModel_pass_89 : decode b_RangeTellerModel_pass 89 = .ok (.baload, 1) := by decide +kernel
theorem d_RangeTellerModel_pass_90 : decode b_RangeTellerModel_pass 90 = .ok (.ifCond .eq 15, 3) := by decide +kernel
theorem d_RangeTellerModel_pass_93 : decode b_RangeTellerModel_pass 93 = .ok (.aload_n 0, 1) := by decide +kernel
theorem d_RangeTellerModel_pass_94 : decode b_RangeTellerModel_pass 94 = .ok (.getfield 102, 3) := by decide +kernel
theorem d_RangeTellerModel_pass_97 : decode b_RangeTellerModel_pass 97 = .ok (.iload 5, 2) := by decide +kernel
theorem d_RangeTellerModel_pass_99 : decode b_RangeTellerModel_pass 99 = .ok (.baload, 1) := by decide +kernel
theorem d_RangeTellerModel_pass_100 : decode b_RangeTellerModel_pass 100 = .ok (.ifCond .ne 5, 3) := by decide +kernel
theorem d_RangeTellerModel_pass_14 : decode b_RangeTellerModel_pass 14 = .ok (.istore_n 2, 1) := by decide +kernel
theorem d_RangeTellerModel_pass_15 : decode b_RangeTellerModel_pass 15 = .ok (.aload_n 0, 1) := by decide +kernel
theorem d_RangeTellerModel_pass_16 : decode b_RangeTellerModel_pass 16 = .ok (.getfield 32, 3) := by decide +kernel
theorem d_RangeTellerModel_pass_19 : decode b_RangeTellerModel_pass 19 = .ok (.iload_n 1, 1) := by decide +kernel
theorem d_RangeTellerModel_pass_20 : decode b_RangeTellerModel_pass 20 = .ok (.iaload, 1) := by decide +kernel
theorem d_RangeTellerModel_pass_21 : decode b_RangeTellerModel_pass 21 = .ok (.istore_n 3, 1) := by decide +kernel
theorem d_RangeTellerModel_pass_22 : decode b_RangeTellerModel_pass 22 = .ok (.iconst 0, 1) := by decide +kernel
theorem d_RangeTellerModel_pass_23 : decode b_RangeTellerModel_pass 23 = .ok (.istore 4, 2) := by decide +kernel
theorem d_RangeTellerModel_pass_0 : decode b_RangeTellerModel_pass 0 = .ok (.aload_n 0, 1) := by decide +kernel
theorem d_RangeTellerModel_pass_1 : decode b_RangeTellerModel_pass 1 = .ok (.getfield 90, 3) := by decide +kernel
theorem d_RangeTellerModel_pass_4 : decode b_RangeTellerModel_pass 4 = .ok (.iload_n 1, 1) := by decide +kernel
theorem d_RangeTellerModel_pass_5 : decode b_RangeTellerModel_pass 5 = .ok (.baload, 1) := by decide +kernel
theorem d_RangeTellerModel_pass_6 : decode b_RangeTellerModel_pass 6 = .ok (.ifCond .ne 7, 3) := by decide +kernel
theorem d_RangeTellerModel_pass_13 : decode b_RangeTellerModel_pass 13 = .ok (.iconst 0, 1) := by decide +kernel
theorem d_RangeTellerModel_pass_9 : decode b_RangeTellerModel_pass 9 = .ok (.iconst 1, 1) := by decide +kernel
theorem d_RangeTellerModel_pass_10 : decode b_RangeTellerModel_pass 10 = .ok (.goto 4, 3) := by decide +kernel
theorem d_RangeTellerModel_bring_79 : decode b_RangeTellerModel_bring 79 = .ok (.iload_n 2, 1) := by decide +kernel
theorem d_RangeTellerModel_bring_80 : decode b_RangeTellerModel_bring 80 = .ok (.iconst 4, 1) := by decide +kernel
theorem d_RangeTellerModel_bring_81 : decode b_RangeTellerModel_bring 81 = .ok (.if_icmp .ge 57, 3) := by decide +kernel
theorem d_RangeTellerModel_bring_138 : decode b_RangeTellerModel_bring 138 = .ok (.return_, 1) := by decide +kernel
theorem d_RangeTellerModel_bring_84 : decode b_RangeTellerModel_bring 84 = .ok (.aload_n 0, 1) := by decide +kernel
theorem d_RangeTellerModel_bring_85 : decode b_RangeTellerModel_bring 85 = .ok (.getfield 144, 3) := by decide +kernel
theorem d_RangeTellerModel_bring_88 : decode b_RangeTellerModel_bring 88 = .ok (.iload_n 2, 1) := by decide +kernel
theorem d_RangeTellerModel_bring_89 : decode b_RangeTellerModel_bring 89 = .ok (.aload_n 0, 1) := by decide +kernel
theorem d_RangeTellerModel_bring_90 : decode b_RangeTellerModel_bring 90 = .ok (.getfield 105, 3) := by decide +kernel
theorem d_RangeTellerModel_bring_93 : decode b_RangeTellerModel_bring 93 = .ok (.iconst 4, 1) := by decide +kernel
theorem d_RangeTellerModel_bring_94 : decode b_RangeTellerModel_bring 94 = .ok (.iload_n 1, 1) := by decide +kernel
theorem d_RangeTellerModel_bring_95 : decode b_RangeTellerModel_bring 95 = .ok (.imul, 1) := by decide +kernel
theorem d_RangeTellerModel_bring_96 : decode b_RangeTellerModel_bring 96 = .ok (.iload_n 2, 1) := by decide +kernel
theorem d_RangeTellerModel_bring_97 : decode b_RangeTellerModel_bring 97 = .ok (.iadd, 1) := by decide +kernel
theorem d_RangeTellerModel_bring_98 : decode b_RangeTellerModel_bring 98 = .ok (.iaload, 1) := by decide +kernel
theorem d_RangeTellerModel_bring_99 : decode b_RangeTellerModel_bring 99 = .ok (.iastore, 1) := by decide +kernel
theorem d_RangeTellerModel_bring_100 : decode b_RangeTellerModel_bring 100 = .ok (.aload_n 0, 1) := by decide +kernel
theorem d_RangeTellerModel_bring_101 : decode b_RangeTellerModel_bring 101 = .ok (.getfield 147, 3) := by decide +kernel
theorem d_RangeTellerModel_bring_104 : decode b_RangeTellerModel_bring 104 = .ok (.iload_n 2, 1) := by decide +kernel
theorem d_RangeTellerModel_bring_105 : decode b_RangeTellerModel_bring 105 = .ok (.aload_n 0, 1) := by decide +kernel
theorem d_RangeTellerModel_bring_106 : decode b_RangeTellerModel_bring 106 = .ok (.getfield 108, 3) := by decide +kernel
theorem d_RangeTellerModel_bring_109 : decode b_RangeTellerModel_bring 109 = .ok (.iconst 4, 1) := by decide +kernel
theorem d_RangeTellerModel_bring_110 : decode b_RangeTellerModel_bring 110 = .ok (.iload_n 1, 1) := by decide +kernel
theorem d_RangeTellerModel_bring_111 : decode b_RangeTellerModel_bring 111 = .ok (.imul, 1) := by decide +kernel
theorem d_RangeTellerModel_bring_112 : decode b_RangeTellerModel_bring 112 = .ok (.iload_n 2, 1) := by decide +kernel
theorem d_RangeTellerModel_bring_113 : decode b_RangeTellerModel_bring 113 = .ok (.iadd, 1) := by decide +kernel
theorem d_RangeTellerModel_bring_114 : decode b_RangeTellerModel_bring 114 = .ok (.iaload, 1) := by decide +kernel
theorem d_RangeTellerModel_bring_115 : decode b_RangeTellerModel_bring 115 = .ok (.iastore, 1) := by decide +kernel
theorem d_RangeTellerModel_bring_116 : decode b_RangeTellerModel_bring 116 = .ok (.aload_n 0, 1) := by decide +kernel
theorem d_RangeTellerModel_bring_117 : decode b_RangeTellerModel_bring 117 = .ok (.getfield 150, 3) := by decide +kernel
theorem d_RangeTellerModel_bring_120 : decode b_RangeTellerModel_bring 120 = .ok (.iload_n 2, 1) := by decide +kernel
theorem d_RangeTellerModel_bring_121 : decode b_RangeTellerModel_bring 121 = .ok (.aload_n 0, 1) := by decide +kernel
theorem d_RangeTellerModel_bring_122 : decode b_RangeTellerModel_bring 122 = .ok (.getfield 111, 3) := by decide +kernel
theorem d_RangeTellerModel_bring_125 : decode b_RangeTellerModel_bring 125 = .ok (.iconst 4, 1) := by decide +kernel
theorem d_RangeTellerModel_bring_126 : decode b_RangeTellerModel_bring 126 = .ok (.iload_n 1, 1) := by decide +kernel
theorem d_RangeTellerModel_bring_127 : decode b_RangeTellerModel_bring 127 = .ok (.imul, 1) := by decide +kernel
theorem d_RangeTellerModel_bring_128 : decode b_RangeTellerModel_bring 128 = .ok (.iload_n 2, 1) := by decide +kernel
theorem d_RangeTellerModel_bring_129 : decode b_RangeTellerModel_bring 129 = .ok (.iadd, 1) := by decide +kernel
theorem d_RangeTellerModel_bring_130 : decode b_RangeTellerModel_bring 130 = .ok (.baload, 1) := by decide +kernel
theorem d_RangeTellerModel_bring_131 : decode b_RangeTellerModel_bring 131 = .ok (.bastore, 1) := by decide +kernel
theorem d_RangeTellerModel_bring_132 : decode b_RangeTellerModel_bring 132 = .ok (.iinc 2 1, 3) := by decide +kernel
theorem d_RangeTellerModel_bring_135 : decode b_RangeTellerModel_bring 135 = .ok (.goto (-56), 3) := by decide +kernel
theorem d_RangeTellerModel_bring_12 : decode b_RangeTellerModel_bring 12 = .ok (.iload_n 2, 1) := by decide +kernel
theorem d_RangeTellerModel_bring_13 : decode b_RangeTellerModel_bring 13 = .ok (.aload_n 0, 1) := by decide +kernel
theorem d_RangeTellerModel_bring_14 : decode b_RangeTellerModel_bring 14 = .ok (.getfield 294, 3) := by decide +kernel
theorem d_RangeTellerModel_bring_17 : decode b_RangeTellerModel_bring 17 = .ok (.if_icmp .ge 60, 3) := by decide +kernel
theorem d_RangeTellerModel_bring_77 : decode b_RangeTellerModel_bring 77 = .ok (.iconst 0, 1) := by decide +kernel
theorem d_RangeTellerModel_bring_78 : decode b_RangeTellerModel_bring 78 = .ok (.istore_n 2, 1) := by decide +kernel
theorem d_RangeTellerModel_bring_20 : decode b_RangeTellerModel_bring 20 = .ok (.aload_n 0, 1) := by decide +kernel
theorem d_RangeTellerModel_bring_21 : decode b_RangeTellerModel_bring 21 = .ok (.getfield 135, 3) := by decide +kernel
theorem d_RangeTellerModel_bring_24 : decode b_RangeTellerModel_bring 24 = .ok (.iload_n 2, 1) := by decide +kernel
theorem d_RangeTellerModel_bring_25 : decode b_RangeTellerModel_bring 25 = .ok (.aload_n 0, 1) := by decide +kernel
theorem d_RangeTellerModel_bring_26 : decode b_RangeTellerModel_bring 26 = .ok (.getfield 96, 3) := by decide +kernel
theorem d_RangeTellerModel_bring_29 : decode b_RangeTellerModel_bring 29 = .ok (.bipush 10, 2) := by decide +kernel
theorem d_RangeTellerModel_bring_31 : decode b_RangeTellerModel_bring 31 = .ok (.iload_n 1, 1) := by decide +kernel
theorem d_RangeTellerModel_bring_32 : decode b_RangeTellerModel_bring 32 = .ok (.imul, 1) := by decide +kernel
theorem d_RangeTellerModel_bring_33 : decode b_RangeTellerModel_bring 33 = .ok (.iload_n 2, 1) := by decide +kernel
theorem d_RangeTellerModel_bring_34 : decode b_RangeTellerModel_bring 34 = .ok (.iadd, 1) := by decide +kernel
theorem d_RangeTellerModel_bring_35 : decode b_RangeTellerModel_bring 35 = .ok (.iaload, 1) := by decide +kernel
theorem d_RangeTellerModel_bring_36 : decode b_RangeTellerModel_bring 36 = .ok (.iastore, 1) := by decide +kernel
theorem d_RangeTellerModel_bring_37 : decode b_RangeTellerModel_bring 37 = .ok (.aload_n 0, 1) := by decide +kernel
theorem d_RangeTellerModel_bring_38 : decode b_RangeTellerModel_bring 38 = .ok (.getfield 138, 3) := by decide +kernel
theorem d_RangeTellerModel_bring_41 : decode b_RangeTellerModel_bring 41 = .ok (.iload_n 2, 1) := by decide +kernel
theorem d_RangeTellerModel_bring_42 : decode b_RangeTellerModel_bring 42 = .ok (.aload_n 0, 1) := by decide +kernel
theorem d_RangeTellerModel_bring_43 : decode b_RangeTellerModel_bring 43 = .ok (.getfield 99, 3) := by decide +kernel
theorem d_RangeTellerModel_bring_46 : decode b_RangeTellerModel_bring 46 = .ok (.bipush 10, 2) := by decide +kernel
theorem d_RangeTellerModel_bring_48 : decode b_RangeTellerModel_bring 48 = .ok (.iload_n 1, 1) := by decide +kernel
theorem d_RangeTellerModel_bring_49 : decode b_RangeTellerModel_bring 49 = .ok (.imul, 1) := by decide +kernel
theorem d_RangeTellerModel_bring_50 : decode b_RangeTellerModel_bring 50 = .ok (.iload_n 2, 1) := by decide +kernel
theorem d_RangeTellerModel_bring_51 : decode b_RangeTellerModel_bring 51 = .ok (.iadd, 1) := by decide +kernel
theorem d_RangeTellerModel_bring_52 : decode b_RangeTellerModel_bring 52 = .ok (.iaload, 1) := by decide +kernel
theorem d_RangeTellerModel_bring_53 : decode b_RangeTellerModel_bring 53 = .ok (.iastore, 1) := by decide +kernel
theorem d_RangeTellerModel_bring_54 : decode b_RangeTellerModel_bring 54 = .ok (.aload_n 0, 1) := by decide +kernel
theorem d_RangeTellerModel_bring_55 : decode b_RangeTellerModel_bring 55 = .ok (.getfield 141, 3) := by decide +kernel
theorem d_RangeTellerModel_bring_58 : decode b_RangeTellerModel_bring 58 = .ok (.iload_n 2, 1) := by decide +kernel
theorem d_RangeTellerModel_bring_59 : decode b_RangeTellerModel_bring 59 = .ok (.aload_n 0, 1) := by decide +kernel
theorem d_RangeTellerModel_bring_60 : decode b_RangeTellerModel_bring 60 = .ok (.getfield 102, 3) := by decide +kernel
theorem d_RangeTellerModel_bring_63 : decode b_RangeTellerModel_bring 63 = .ok (.bipush 10, 2) := by decide +kernel
theorem d_RangeTellerModel_bring_65 : decode b_RangeTellerModel_bring 65 = .ok (.iload_n 1, 1) := by decide +kernel
theorem d_RangeTellerModel_bring_66 : decode b_RangeTellerModel_bring 66 = .ok (.imul, 1) := by decide +kernel
theorem d_RangeTellerModel_bring_67 : decode b_RangeTellerModel_bring 67 = .ok (.iload_n 2, 1) := by decide +kernel
theorem d_RangeTellerModel_bring_68 : decode b_RangeTellerModel_bring 68 = .ok (.iadd, 1) := by decide +kernel
theorem d_RangeTellerModel_bring_69 : decode b_RangeTellerModel_bring 69 = .ok (.baload, 1) := by decide +kernel
theorem d_RangeTellerModel_bring_70 : decode b_RangeTellerModel_bring 70 = .ok (.bastore, 1) := by decide +kernel
theorem d_RangeTellerModel_bring_71 : decode b_RangeTellerModel_bring 71 = .ok (.iinc 2 1, 3) := by decide +kernel
theorem d_RangeTellerModel_bring_74 : decode b_RangeTellerModel_bring 74 = .ok (.goto (-62), 3) := by decide +kernel
theorem d_RangeTellerModel_bring_0 : decode b_RangeTellerModel_bring 0 = .ok (.aload_n 0, 1) := by decide +kernel
theorem d_RangeTellerModel_bring_1 : decode b_RangeTellerModel_bring 1 = .ok (.aload_n 0, 1) := by decide +kernel
theorem d_RangeTellerModel_bring_2 : decode b_RangeTellerModel_bring 2 = .ok (.getfield 32, 3) := by decide +kernel
theorem d_RangeTellerModel_bring_5 : decode b_RangeTellerModel_bring 5 = .ok (.iload_n 1, 1) := by decide +kernel
theorem d_RangeTellerModel_bring_6 : decode b_RangeTellerModel_bring 6 = .ok (.iaload, 1) := by decide +kernel
theorem d_RangeTellerModel_bring_7 : decode b_RangeTellerModel_bring 7 = .ok (.putfield 294, 3) := by decide +kernel
theorem d_RangeTellerModel_bring_10 : decode b_RangeTellerModel_bring 10 = .ok (.iconst 0, 1) := by decide +kernel
theorem d_RangeTellerModel_bring_11 : decode b_RangeTellerModel_bring 11 = .ok (.istore_n 2, 1) := by decide +kernel
theorem d_RangeTellerModel_set_0 : decode b_RangeTellerModel_set 0 = .ok (.aload_n 0, 1) := by decide +kernel
theorem d_RangeTellerModel_set_1 : decode b_RangeTellerModel_set 1 = .ok (.getfield 135, 3) := by decide +kernel
theorem d_RangeTellerModel_set_4 : decode b_RangeTellerModel_set 4 = .ok (.iload_n 1, 1) := by decide +kernel
theorem d_RangeTellerModel_set_5 : decode b_RangeTellerModel_set 5 = .ok (.iload_n 2, 1) := by decide +kernel
theorem d_RangeTellerModel_set_6 : decode b_RangeTellerModel_set 6 = .ok (.iastore, 1) := by decide +kernel
theorem d_RangeTellerModel_set_7 : decode b_RangeTellerModel_set 7 = .ok (.aload_n 0, 1) := by decide +kernel
theorem d_RangeTellerModel_set_8 : decode b_RangeTellerModel_set 8 = .ok (.getfield 138, 3) := by decide +kernel
theorem d_RangeTellerModel_set_11 : decode b_RangeTellerModel_set 11 = .ok (.iload_n 1, 1) := by decide +kernel
theorem d_RangeTellerModel_set_12 : decode b_RangeTellerModel_set 12 = .ok (.iload_n 3, 1) := by decide +kernel
theorem d_RangeTellerModel_set_13 : decode b_RangeTellerModel_set 13 = .ok (.iastore, 1) := by decide +kernel
theorem d_RangeTellerModel_set_14 : decode b_RangeTellerModel_set 14 = .ok (.aload_n 0, 1) := by decide +kernel
theorem d_RangeTellerModel_set_15 : decode b_RangeTellerModel_set 15 = .ok (.getfield 141, 3) := by decide +kernel
theorem d_RangeTellerModel_set_18 : decode b_RangeTellerModel_set 18 = .ok (.iload_n 1, 1) := by decide +kernel
theorem d_RangeTellerModel_set_19 : decode b_RangeTellerModel_set 19 = .ok (.iload 4, 2) := by decide +kernel
theorem d_RangeTellerModel_set_21 : decode b_RangeTellerModel_set 21 = .ok (.bastore, 1) := by decide +kernel
theorem d_RangeTellerModel_set_22 : decode b_RangeTellerModel_set 22 = .ok (.return_, 1) := by decide +kernel
theorem d_RangeTellerModel_wake_50 : decode b_RangeTellerModel_wake 50 = .ok (.iinc 3 1, 3) := by decide +kernel
theorem d_RangeTellerModel_wake_53 : decode b_RangeTellerModel_wake 53 = .ok (.goto (-51), 3) := by decide +kernel
theorem d_RangeTellerModel_wake_43 : decode b_RangeTellerModel_wake 43 = .ok (.aload_n 0, 1) := by decide +kernel
theorem d_RangeTellerModel_wake_44 : decode b_RangeTellerModel_wake 44 = .ok (.getfield 93, 3) := by decide +kernel
theorem d_RangeTellerModel_wake_47 : decode b_RangeTellerModel_wake 47 = .ok (.iload_n 3, 1) := by decide +kernel
theorem d_RangeTellerModel_wake_48 : decode b_RangeTellerModel_wake 48 = .ok (.iconst 1, 1) := by decide +kernel
theorem d_RangeTellerModel_wake_49 : decode b_RangeTellerModel_wake 49 = .ok (.bastore, 1) := by decide +kernel
theorem d_RangeTellerModel_wake_2 : decode b_RangeTellerModel_wake 2 = .ok (.iload_n 3, 1) := by decide +kernel
theorem d_RangeTellerModel_wake_3 : decode b_RangeTellerModel_wake 3 = .ok (.aload_n 0, 1) := by decide +kernel
theorem d_RangeTellerModel_wake_4 : decode b_RangeTellerModel_wake 4 = .ok (.getfield 171, 3) := by decide +kernel
theorem d_RangeTellerModel_wake_7 : decode b_RangeTellerModel_wake 7 = .ok (.if_icmp .ge 49, 3) := by decide +kernel
theorem d_RangeTellerModel_wake_56 : decode b_RangeTellerModel_wake 56 = .ok (.aload_n 0, 1) := by decide +kernel
theorem d_RangeTellerModel_wake_57 : decode b_RangeTellerModel_wake 57 = .ok (.iconst 1, 1) := by decide +kernel
theorem d_RangeTellerModel_wake_58 : decode b_RangeTellerModel_wake 58 = .ok (.putfield 291, 3) := by decide +kernel
theorem d_RangeTellerModel_wake_61 : decode b_RangeTellerModel_wake 61 = .ok (.return_, 1) := by decide +kernel
theorem d_RangeTellerModel_wake_10 : decode b_RangeTellerModel_wake 10 = .ok (.aload_n 0, 1) := by decide +kernel
theorem d_RangeTellerModel_wake_11 : decode b_RangeTellerModel_wake 11 = .ok (.getfield 90, 3) := by decide +kernel
theorem d_RangeTellerModel_wake_14 : decode b_RangeTellerModel_wake 14 = .ok (.iload_n 3, 1) := by decide +kernel
theorem d_RangeTellerModel_wake_15 : decode b_RangeTellerModel_wake 15 = .ok (.baload, 1) := by decide +kernel
theorem d_RangeTellerModel_wake_16 : decode b_RangeTellerModel_wake 16 = .ok (.ifCond .eq 34, 3) := by decide +kernel
theorem d_RangeTellerModel_wake_19 : decode b_RangeTellerModel_wake 19 = .ok (.aload_n 0, 1) := by decide +kernel
theorem d_RangeTellerModel_wake_20 : decode b_RangeTellerModel_wake 20 = .ok (.getfield 17, 3) := by decide +kernel
theorem d_RangeTellerModel_wake_23 : decode b_RangeTellerModel_wake 23 = .ok (.iload_n 3, 1) := by decide +kernel
theorem d_RangeTellerModel_wake_24 : decode b_RangeTellerModel_wake 24 = .ok (.iaload, 1) := by decide +kernel
theorem d_RangeTellerModel_wake_25 : decode b_RangeTellerModel_wake 25 = .ok (.iload_n 1, 1) := by decide +kernel
theorem d_RangeTellerModel_wake_26 : decode b_RangeTellerModel_wake 26 = .ok (.if_icmp .ne 24, 3) := by decide +kernel
theorem d_RangeTellerModel_wake_29 : decode b_RangeTellerModel_wake 29 = .ok (.iload_n 2, 1) := by decide +kernel
theorem d_RangeTellerModel_wake_30 : decode b_RangeTellerModel_wake 30 = .ok (.ifCond .lt 13, 3) := by decide +kernel
theorem d_RangeTellerModel_wake_33 : decode b_RangeTellerModel_wake 33 = .ok (.aload_n 0, 1) := by decide +kernel
theorem d_RangeTellerModel_wake_34 : decode b_RangeTellerModel_wake 34 = .ok (.getfield 20, 3) := by decide +kernel
theorem d_RangeTellerModel_wake_37 : decode b_RangeTellerModel_wake 37 = .ok (.iload_n 3, 1) := by decide +kernel
theorem d_RangeTellerModel_wake_38 : decode b_RangeTellerModel_wake 38 = .ok (.iaload, 1) := by decide +kernel
theorem d_RangeTellerModel_wake_39 : decode b_RangeTellerModel_wake 39 = .ok (.iload_n 2, 1) := by decide +kernel
theorem d_RangeTellerModel_wake_40 : decode b_RangeTellerModel_wake 40 = .ok (.if_icmp .ne 10, 3) := by decide +kernel
theorem d_RangeTellerModel_wake_0 : decode b_RangeTellerModel_wake 0 = .ok (.iconst 0, 1) := by decide +kernel
theorem d_RangeTellerModel_wake_1 : decode b_RangeTellerModel_wake 1 = .ok (.istore_n 3, 1) := by decide +kernel
theorem d_RangeTellerModel_ending_246 : decode b_RangeTellerModel_ending 246 = .ok (.iload_n 3, 1) := by decide +kernel
theorem d_RangeTellerModel_ending_247 : decode b_RangeTellerModel_ending 247 = .ok (.ifCond .eq 10, 3) := by decide +kernel
theorem d_RangeTellerModel_ending_257 : decode b_RangeTellerModel_ending 257 = .ok (.return_, 1) := by decide +kernel
theorem d_RangeTellerModel_ending_250 : decode b_RangeTellerModel_ending 250 = .ok (.aload_n 0, 1) := by decide +kernel
theorem d_RangeTellerModel_ending_251 : decode b_RangeTellerModel_ending 251 = .ok (.bipush 9, 2) := by decide +kernel
theorem d_RangeTellerModel_ending_253 : decode b_RangeTellerModel_ending 253 = .ok (.iload_n 2, 1) := by decide +kernel
theorem d_RangeTellerModel_ending_254 : decode b_RangeTellerModel_ending 254 = .ok (.invokevirtual 313, 3) := by decide +kernel
theorem d_RangeTellerModel_ending_245 : decode b_RangeTellerModel_ending 245 = .ok (.bastore, 1) := by decide +kernel
theorem d_RangeTellerModel_ending_240 : decode b_RangeTellerModel_ending 240 = .ok (.iconst 1, 1) := by decide +kernel
theorem d_RangeTellerModel_ending_241 : decode b_RangeTellerModel_ending 241 = .ok (.goto 4, 3) := by decide +kernel
theorem d_RangeTellerModel_ending_215 : decode b_RangeTellerModel_ending 215 = .ok (.iastore, 1) := by decide +kernel
theorem d_RangeTellerModel_ending_216 : decode b_RangeTellerModel_ending 216 = .ok (.aload_n 0, 1) := by decide +kernel
theorem d_RangeTellerModel_ending_217 : decode b_RangeTellerModel_ending 217 = .ok (.getfield 129, 3) := by decide +kernel
theorem d_RangeTellerModel_ending_220 : decode b_RangeTellerModel_ending 220 = .ok (.iload_n 2, 1) := by decide +kernel
theorem d_RangeTellerModel_ending_221 : decode b_RangeTellerModel_ending 221 = .ok (.aload_n 0, 1) := by decide +kernel
theorem d_RangeTellerModel_ending_222 : decode b_RangeTellerModel_ending 222 = .ok (.getfield 129, 3) := by decide +kernel
theorem d_RangeTellerModel_ending_225 : decode b_RangeTellerModel_ending 225 = .ok (.iload_n 2, 1) := by decide +kernel
theorem d_RangeTellerModel_ending_226 : decode b_RangeTellerModel_ending 226 = .ok (.baload, 1) := by decide +kernel
theorem d_RangeTellerModel_ending_227 : decode b_RangeTellerModel_ending 227 = .ok (.ifCond .ne 13, 3) := by decide +kernel
theorem d_RangeTellerModel_ending_230 : decode b_RangeTellerModel_ending 230 = .ok (.aload_n 0, 1) := by decide +kernel
theorem d_RangeTellerModel_ending_231 : decode b_RangeTellerModel_ending 231 = .ok (.getfield 141, 3) := by decide +kernel
theorem d_RangeTellerModel_ending_234 : decode b_RangeTellerModel_ending 234 = .ok (.iload 4, 2) := by decide +kernel
theorem d_RangeTellerModel_ending_236 : decode b_RangeTellerModel_ending 236 = .ok (.baload, 1) := by decide +kernel
theorem d_RangeTellerModel_ending_237 : decode b_RangeTellerModel_ending 237 = .ok (.ifCond .eq 7, 3) := by decide +kernel
theorem d_RangeTellerModel_ending_244 : decode b_RangeTellerModel_ending 244 = .ok (.iconst 0, 1) := by decide +kernel
theorem d_RangeTellerModel_ending_199 : decode b_RangeTellerModel_ending 199 = .ok (.aload_n 0, 1) := by decide +kernel
theorem d_RangeTellerModel_ending_200 : decode b_RangeTellerModel_ending 200 = .ok (.getfield 138, 3) := by decide +kernel
theorem d_RangeTellerModel_ending_203 : decode b_RangeTellerModel_ending 203 = .ok (.iload 4, 2) := by decide +kernel
theorem d_RangeTellerModel_ending_205 : decode b_RangeTellerModel_ending 205 = .ok (.iaload, 1) := by decide +kernel
theorem d_RangeTellerModel_ending_206 : decode b_RangeTellerModel_ending 206 = .ok (.goto 9, 3) := by decide +kernel
theorem d_RangeTellerModel_ending_172 : decode b_RangeTellerModel_ending 172 = .ok (.iastore, 1) := by decide +kernel
theorem d_RangeTellerModel_ending_173 : decode b_RangeTellerModel_ending 173 = .ok (.aload_n 0, 1) := by decide +kernel
theorem d_RangeTellerModel_ending_174 : decode b_RangeTellerModel_ending 174 = .ok (.getfield 126, 3) := by decide +kernel
theorem d_RangeTellerModel_ending_177 : decode b_RangeTellerModel_ending 177 = .ok (.iload_n 2, 1) := by decide +kernel
theorem d_RangeTellerModel_ending_178 : decode b_RangeTellerModel_ending 178 = .ok (.iload 5, 2) := by decide +kernel
theorem d_RangeTellerModel_ending_180 : decode b_RangeTellerModel_ending 180 = .ok (.ifCond .ne 19, 3) := by decide +kernel
theorem d_RangeTellerModel_ending_183 : decode b_RangeTellerModel_ending 183 = .ok (.aload_n 0, 1) := by decide +kernel
theorem d_RangeTellerModel_ending_184 : decode b_RangeTellerModel_ending 184 = .ok (.getfield 138, 3) := by decide +kernel
theorem d_RangeTellerModel_ending_187 : decode b_RangeTellerModel_ending 187 = .ok (.iload 4, 2) := by decide +kernel
theorem d_RangeTellerModel_ending_189 : decode b_RangeTellerModel_ending 189 = .ok (.iaload, 1) := by decide +kernel
theorem d_RangeTellerModel_ending_190 : decode b_RangeTellerModel_ending 190 = .ok (.aload_n 0, 1) := by decide +kernel
theorem d_RangeTellerModel_ending_191 : decode b_RangeTellerModel_ending 191 = .ok (.getfield 126, 3) := by decide +kernel
theorem d_RangeTellerModel_ending_194 : decode b_RangeTellerModel_ending 194 = .ok (.iload_n 2, 1) := by decide +kernel
theorem d_RangeTellerModel_ending_195 : decode b_RangeTellerModel_ending 195 = .ok (.iaload, 1) := by decide +kernel
theorem d_RangeTellerModel_ending_196 : decode b_RangeTellerModel_ending 196 = .ok (.if_icmp .le 13, 3) := by decide +kernel
theorem d_RangeTellerModel_ending_209 : decode b_RangeTellerModel_ending 209 = .ok (.aload_n 0, 1) := by decide +kernel
theorem d_RangeTellerModel_ending_210 : decode b_RangeTellerModel_ending 210 = .ok (.getfield 126, 3) := by decide +kernel
theorem d_RangeTellerModel_ending_213 : decode b_RangeTellerModel_ending 213 = .ok (.iload_n 2, 1) := by decide +kernel
theorem d_RangeTellerModel_ending_214 : decode b_RangeTellerModel_ending 214 = .ok (.iaload, 1) := by decide +kernel
theorem d_RangeTellerModel_ending_156 : decode b_RangeTellerModel_ending 156 = .ok (.aload_n 0, 1) := by decide +kernel
theorem d_RangeTellerModel_ending_157 : decode b_RangeTellerModel_ending 157 = .ok (.getfield 135, 3) := by decide +kernel
theorem d_RangeTellerModel_ending_160 : decode b_RangeTellerModel_ending 160 = .ok (.iload 4, 2) := by decide +kernel
theorem d_RangeTellerModel_ending_162 : decode b_RangeTellerModel_ending 162 = .ok (.iaload, 1) := by decide +kernel
theorem d_RangeTellerModel_ending_163 : decode b_RangeTellerModel_ending 163 = .ok (.goto 9, 3) := by decide +kernel
theorem d_RangeTellerModel_ending_129 : decode b_RangeTellerModel_ending 129 = .ok (.istore_n 3, 1) := by decide +kernel
theorem d_RangeTellerModel_ending_130 : decode b_RangeTellerModel_ending 130 = .ok (.aload_n 0, 1) := by decide +kernel
theorem d_RangeTellerModel_ending_131 : decode b_RangeTellerModel_ending 131 = .ok (.getfield 123, 3) := by decide +kernel
theorem d_RangeTellerModel_ending_134 : decode b_RangeTellerModel_ending 134 = .ok (.iload_n 2, 1) := by decide +kernel
theorem d_RangeTellerModel_ending_135 : decode b_RangeTellerModel_ending 135 = .ok (.iload 5, 2) := by decide +kernel
theorem d_RangeTellerModel_ending_137 : decode b_RangeTellerModel_ending 137 = .ok (.ifCond .ne 19, 3) := by decide +kernel
theorem d_RangeTellerModel_ending_140 : decode b_RangeTellerModel_ending 140 = .ok (.aload_n 0, 1) := by decide +kernel
theorem d_RangeTellerModel_ending_141 : decode b_RangeTellerModel_ending 141 = .ok (.getfield 135, 3) := by decide +kernel
theorem d_RangeTellerModel_ending_144 : decode b_RangeTellerModel_ending 144 = .ok (.iload 4, 2) := by decide +kernel
theorem d_RangeTellerModel_ending_146 : decode b_RangeTellerModel_ending 146 = .ok (.iaload, 1) := by decide +kernel
theorem d_RangeTellerModel_ending_147 : decode b_RangeTellerModel_ending 147 = .ok (.aload_n 0, 1) := by decide +kernel
theorem d_RangeTellerModel_ending_148 : decode b_RangeTellerModel_ending 148 = .ok (.getfield 123, 3) := by decide +kernel
theorem d_RangeTellerModel_ending_151 : decode b_RangeTellerModel_ending 151 = .ok (.iload_n 2, 1) := by decide +kernel
theorem d_RangeTellerModel_ending_152 : decode b_RangeTellerModel_ending 152 = .ok (.iaload, 1) := by decide +kernel
theorem d_RangeTellerModel_ending_153 : decode b_RangeTellerModel_ending 153 = .ok (.if_icmp .ge 13, 3) := by decide +kernel
theorem d_RangeTellerModel_ending_166 : decode b_RangeTellerModel_ending 166 = .ok (.aload_n 0, 1) := by decide +kernel
theorem d_RangeTellerModel_ending_167 : decode b_RangeTellerModel_ending 167 = .ok (.getfield 123, 3) := by decide +kernel
theorem d_RangeTellerModel_ending_170 : decode b_RangeTellerModel_ending 170 = .ok (.iload_n 2, 1) := by decide +kernel
theorem d_RangeTellerModel_ending_171 : decode b_RangeTellerModel_ending 171 = .ok (.iaload, 1) := by decide +kernel
theorem d_RangeTellerModel_ending_124 : decode b_RangeTellerModel_ending 124 = .ok (.iconst 1, 1) := by decide +kernel
theorem d_RangeTellerModel_ending_125 : decode b_RangeTellerModel_ending 125 = .ok (.goto 4, 3) := by decide +kernel
theorem d_RangeTellerModel_ending_128 : decode b_RangeTellerModel_ending 128 = .ok (.iconst 0, 1) := by decide +kernel
theorem d_RangeTellerModel_ending_67 : decode b_RangeTellerModel_ending 67 = .ok (.istore 5, 2) := by decide +kernel
theorem d_RangeTellerModel_ending_69 : decode b_RangeTellerModel_ending 69 = .ok (.iload_n 3, 1) := by decide +kernel
theorem d_RangeTellerModel_ending_70 : decode b_RangeTellerModel_ending 70 = .ok (.ifCond .ne 54, 3) := by decide +kernel
theorem d_RangeTellerModel_ending_73 : decode b_RangeTellerModel_ending 73 = .ok (.aload_n 0, 1) := by decide +kernel
theorem d_RangeTellerModel_ending_74 : decode b_RangeTellerModel_ending 74 = .ok (.getfield 135, 3) := by decide +kernel
theorem d_RangeTellerModel_ending_77 : decode b_RangeTellerModel_ending 77 = .ok (.iload 4, 2) := by decide +kernel
theorem d_RangeTellerModel_ending_79 : decode b_RangeTellerModel_ending 79 = .ok (.iaload, 1) := by decide +kernel
theorem d_RangeTellerModel_ending_80 : decode b_RangeTellerModel_ending 80 = .ok (.aload_n 0, 1) := by decide +kernel
theorem d_RangeTellerModel_ending_81 : decode b_RangeTellerModel_ending 81 = .ok (.getfield 123, 3) := by decide +kernel
theorem d_RangeTellerModel_ending_84 : decode b_RangeTellerModel_ending 84 = .ok (.iload_n 2, 1) := by decide +kernel
theorem d_RangeTellerModel_ending_85 : decode b_RangeTellerModel_ending 85 = .ok (.iaload, 1) := by decide +kernel
theorem d_RangeTellerModel_ending_86 : decode b_RangeTellerModel_ending 86 = .ok (.if_icmp .lt 38, 3) := by decide +kernel
theorem d_RangeTellerModel_ending_89 : decode b_RangeTellerModel_ending 89 = .ok (.aload_n 0, 1) := by decide +kernel
theorem d_RangeTellerModel_ending_90 : decode b_RangeTellerModel_ending 90 = .ok (.getfield 138, 3) := by decide +kernel
theorem d_RangeTellerModel_ending_93 : decode b_RangeTellerModel_ending 93 = .ok (.iload 4, 2) := by decide +kernel
theorem d_RangeTellerModel_ending_95 : decode b_RangeTellerModel_ending 95 = .ok (.iaload, 1) := by decide +kernel
theorem d_RangeTellerModel_ending_96 : decode b_RangeTellerModel_ending 96 = .ok (.aload_n 0, 1) := by decide +kernel
theorem d_RangeTellerModel_ending_97 : decode b_RangeTellerModel_ending 97 = .ok (.getfield 126, 3) := by decide +kernel
theorem d_RangeTellerModel_ending_100 : decode b_RangeTellerModel_ending 100 = .ok (.iload_n 2, 1) := by decide +kernel
theorem d_RangeTellerModel_ending_101 : decode b_RangeTellerModel_ending 101 = .ok (.iaload, 1) := by decide +kernel
theorem d_RangeTellerModel_ending_102 : decode b_RangeTellerModel_ending 102 = .ok (.if_icmp .gt 22, 3) := by decide +kernel
theorem d_RangeTellerModel_ending_105 : decode b_RangeTellerModel_ending 105 = .ok (.aload_n 0, 1) := by decide +kernel
theorem d_RangeTellerModel_ending_106 : decode b_RangeTellerModel_ending 106 = .ok (.getfield 141, 3) := by decide +kernel
theorem d_RangeTellerModel_ending_109 : decode b_RangeTellerModel_ending 109 = .ok (.iload 4, 2) := by decide +kernel
theorem d_RangeTellerModel_ending_111 : decode b_RangeTellerModel_ending 111 = .ok (.baload, 1) := by decide +kernel
theorem d_RangeTellerModel_ending_112 : decode b_RangeTellerModel_ending 112 = .ok (.ifCond .eq 16, 3) := by decide +kernel
theorem d_RangeTellerModel_ending_115 : decode b_RangeTellerModel_ending 115 = .ok (.aload_n 0, 1) := by decide +kernel
theorem d_RangeTellerModel_ending_116 : decode b_RangeTellerModel_ending 116 = .ok (.getfield 129, 3) := by decide +kernel
theorem d_RangeTellerModel_ending_119 : decode b_RangeTellerModel_ending 119 = .ok (.iload_n 2, 1) := by decide +kernel
theorem d_RangeTellerModel_ending_120 : decode b_RangeTellerModel_ending 120 = .ok (.baload, 1) := by decide +kernel
theorem d_RangeTellerModel_ending_121 : decode b_RangeTellerModel_ending 121 = .ok (.ifCond .ne 7, 3) := by decide +kernel
theorem d_RangeTellerModel_ending_21 : decode b_RangeTellerModel_ending 21 = .ok (.istore_n 3, 1) := by decide +kernel
theorem d_RangeTellerModel_ending_22 : decode b_RangeTellerModel_ending 22 = .ok (.aload_n 0, 1) := by decide +kernel
theorem d_RangeTellerModel_ending_23 : decode b_RangeTellerModel_ending 23 = .ok (.getfield 132, 3) := by decide +kernel
theorem d_RangeTellerModel_ending_26 : decode b_RangeTellerModel_ending 26 = .ok (.iload_n 2, 1) := by decide +kernel
theorem d_RangeTellerModel_ending_27 : decode b_RangeTellerModel_ending 27 = .ok (.iconst 1, 1) := by decide +kernel
theorem d_RangeTellerModel_ending_28 : decode b_RangeTellerModel_ending 28 = .ok (.bastore, 1) := by decide +kernel
theorem d_RangeTellerModel_ending_29 : decode b_RangeTellerModel_ending 29 = .ok (.aload_n 0, 1) := by decide +kernel
theorem d_RangeTellerModel_ending_30 : decode b_RangeTellerModel_ending 30 = .ok (.getfield 50, 3) := by decide +kernel
theorem d_RangeTellerModel_ending_33 : decode b_RangeTellerModel_ending 33 = .ok (.iload_n 2, 1) := by decide +kernel
theorem d_RangeTellerModel_ending_34 : decode b_RangeTellerModel_ending 34 = .ok (.iaload, 1) := by decide +kernel
theorem d_RangeTellerModel_ending_35 : decode b_RangeTellerModel_ending 35 = .ok (.iconst 1, 1) := by decide +kernel
theorem d_RangeTellerModel_ending_36 : decode b_RangeTellerModel_ending 36 = .ok (.if_icmp .ne 210, 3) := by decide +kernel
theorem d_RangeTellerModel_ending_39 : decode b_RangeTellerModel_ending 39 = .ok (.aload_n 0, 1) := by decide +kernel
theorem d_RangeTellerModel_ending_40 : decode b_RangeTellerModel_ending 40 = .ok (.getfield 294, 3) := by decide +kernel
theorem d_RangeTellerModel_ending_43 : decode b_RangeTellerModel_ending 43 = .ok (.iconst 1, 1) := by decide +kernel
theorem d_RangeTellerModel_ending_44 : decode b_RangeTellerModel_ending 44 = .ok (.isub, 1) := by decide +kernel
theorem d_RangeTellerModel_ending_45 : decode b_RangeTellerModel_ending 45 = .ok (.istore 4, 2) := by decide +kernel
theorem d_RangeTellerModel_ending_47 : decode b_RangeTellerModel_ending 47 = .ok (.aload_n 0, 1) := by decide +kernel
theorem d_RangeTellerModel_ending_48 : decode b_RangeTellerModel_ending 48 = .ok (.getfield 123, 3) := by decide +kernel
theorem d_RangeTellerModel_ending_51 : decode b_RangeTellerModel_ending 51 = .ok (.iload_n 2, 1) := by decide +kernel
theorem d_RangeTellerModel_ending_52 : decode b_RangeTellerModel_ending 52 = .ok (.iaload, 1) := by decide +kernel
theorem d_RangeTellerModel_ending_53 : decode b_RangeTellerModel_ending 53 = .ok (.aload_n 0, 1) := by decide +kernel
theorem d_RangeTellerModel_ending_54 : decode b_RangeTellerModel_ending 54 = .ok (.getfield 126, 3) := by decide +kernel
theorem d_RangeTellerModel_ending_57 : decode b_RangeTellerModel_ending 57 = .ok (.iload_n 2, 1) := by decide +kernel
theorem d_RangeTellerModel_ending_58 : decode b_RangeTellerModel_ending 58 = .ok (.iaload, 1) := by decide +kernel
theorem d_RangeTellerModel_ending_59 : decode b_RangeTellerModel_ending 59 = .ok (.if_icmp .le 7, 3) := by decide +kernel
theorem d_RangeTellerModel_ending_66 : decode b_RangeTellerModel_ending 66 = .ok (.iconst 0, 1) := by decide +kernel
theorem d_RangeTellerModel_ending_62 : decode b_RangeTellerModel_ending 62 = .ok (.iconst 1, 1) := by decide +kernel
theorem d_RangeTellerModel_ending_63 : decode b_RangeTellerModel_ending 63 = .ok (.goto 4, 3) := by decide +kernel
theorem d_RangeTellerModel_ending_0 : decode b_RangeTellerModel_ending 0 = .ok (.aload_n 0, 1) := by decide +kernel
theorem d_RangeTellerModel_ending_1 : decode b_RangeTellerModel_ending 1 = .ok (.getfield 23, 3) := by decide +kernel
theorem d_RangeTellerModel_ending_4 : decode b_RangeTellerModel_ending 4 = .ok (.iload_n 1, 1) := by decide +kernel
theorem d_RangeTellerModel_ending_5 : decode b_RangeTellerModel_ending 5 = .ok (.iaload, 1) := by decide +kernel
theorem d_RangeTellerModel_ending_6 : decode b_RangeTellerModel_ending 6 = .ok (.istore_n 2, 1) := by decide +kernel
theorem d_RangeTellerModel_ending_7 : decode b_RangeTellerModel_ending 7 = .ok (.aload_n 0, 1) := by decide +kernel
theorem d_RangeTellerModel_ending_8 : decode b_RangeTellerModel_ending 8 = .ok (.getfield 132, 3) := by decide +kernel
theorem d_RangeTellerModel_ending_11 : decode b_RangeTellerModel_ending 11 = .ok (.iload_n 2, 1) := by decide +kernel
theorem d_RangeTellerModel_ending_12 : decode b_RangeTellerModel_ending 12 = .ok (.baload, 1) := by decide +kernel
theorem d_RangeTellerModel_ending_13 : decode b_RangeTellerModel_ending 13 = .ok (.ifCond .ne 7, 3) := by decide +kernel
theorem d_RangeTellerModel_ending_20 : decode b_RangeTellerModel_ending 20 = .ok (.iconst 0, 1) := by decide +kernel
theorem d_RangeTellerModel_ending_16 : decode b_RangeTellerModel_ending 16 = .ok (.iconst 1, 1) := by decide +kernel
theorem d_RangeTellerModel_ending_17 : decode b_RangeTellerModel_ending 17 = .ok (.goto 4, 3) := by decide +kernel
theorem d_RangeTellerModel_passBranch_122 : decode b_RangeTellerModel_passBranch 122 = .ok (.invokevirtual 323, 3) := by decide +kernel
theorem d_RangeTellerModel_passBranch_125 : decode b_RangeTellerModel_passBranch 125 = .ok (.return_, 1) := by decide +kernel
theorem d_RangeTellerModel_passBranch_70 : decode b_RangeTellerModel_passBranch 70 = .ok (.aload_n 0, 1) := by decide +kernel
theorem d_RangeTellerModel_passBranch_71 : decode b_RangeTellerModel_passBranch 71 = .ok (.iload_n 2, 1) := by decide +kernel
theorem d_RangeTellerModel_passBranch_72 : decode b_RangeTellerModel_passBranch 72 = .ok (.aload_n 0, 1) := by decide +kernel
theorem d_RangeTellerModel_passBranch_73 : decode b_RangeTellerModel_passBranch 73 = .ok (.getfield 41, 3) := by decide +kernel
theorem d_RangeTellerModel_passBranch_76 : decode b_RangeTellerModel_passBranch 76 = .ok (.iload_n 1, 1) := by decide +kernel
theorem d_RangeTellerModel_passBranch_77 : decode b_RangeTellerModel_passBranch 77 = .ok (.iaload, 1) := by decide +kernel
theorem d_RangeTellerModel_passBranch_78 : decode b_RangeTellerModel_passBranch 78 = .ok (.iadd, 1) := by decide +kernel
theorem d_RangeTellerModel_passBranch_79 : decode b_RangeTellerModel_passBranch 79 = .ok (.putfield 294, 3) := by decide +kernel
theorem d_RangeTellerModel_passBranch_82 : decode b_RangeTellerModel_passBranch 82 = .ok (.aload_n 0, 1) := by decide +kernel
theorem d_RangeTellerModel_passBranch_83 : decode b_RangeTellerModel_passBranch 83 = .ok (.aload_n 0, 1) := by decide +kernel
theorem d_RangeTellerModel_passBranch_84 : decode b_RangeTellerModel_passBranch 84 = .ok (.getfield 17, 3) := by decide +kernel
theorem d_RangeTellerModel_passBranch_87 : decode b_RangeTellerModel_passBranch 87 = .ok (.aload_n 0, 1) := by decide +kernel
theorem d_RangeTellerModel_passBranch_88 : decode b_RangeTellerModel_passBranch 88 = .ok (.getfield 35, 3) := by decide +kernel
theorem d_RangeTellerModel_passBranch_91 : decode b_RangeTellerModel_passBranch 91 = .ok (.iload_n 1, 1) := by decide +kernel
theorem d_RangeTellerModel_passBranch_92 : decode b_RangeTellerModel_passBranch 92 = .ok (.iaload, 1) := by decide +kernel
theorem d_RangeTellerModel_passBranch_93 : decode b_RangeTellerModel_passBranch 93 = .ok (.iaload, 1) := by decide +kernel
theorem d_RangeTellerModel_passBranch_94 : decode b_RangeTellerModel_passBranch 94 = .ok (.iconst 2, 1) := by decide +kernel
theorem d_RangeTellerModel_passBranch_95 : decode b_RangeTellerModel_passBranch 95 = .ok (.if_icmp .ne 14, 3) := by decide +kernel
theorem d_RangeTellerModel_passBranch_109 : decode b_RangeTellerModel_passBranch 109 = .ok (.aload_n 0, 1) := by decide +kernel
theorem d_RangeTellerModel_passBranch_110 : decode b_RangeTellerModel_passBranch 110 = .ok (.getfield 26, 3) := by decide +kernel
theorem d_RangeTellerModel_passBranch_113 : decode b_RangeTellerModel_passBranch 113 = .ok (.aload_n 0, 1) := by decide +kernel
theorem d_RangeTellerModel_passBranch_114 : decode b_RangeTellerModel_passBranch 114 = .ok (.getfield 35, 3) := by decide +kernel
theorem d_RangeTellerModel_passBranch_117 : decode b_RangeTellerModel_passBranch 117 = .ok (.iload_n 1, 1) := by decide +kernel
theorem d_RangeTellerModel_passBranch_118 : decode b_RangeTellerModel_passBranch 118 = .ok (.iaload, 1) := by decide +kernel
theorem d_RangeTellerModel_passBranch_119 : decode b_RangeTellerModel_passBranch 119 = .ok (.iaload, 1) := by decide +kernel
theorem d_RangeTellerModel_passBranch_120 : decode b_RangeTellerModel_passBranch 120 = .ok (.iconst 1, 1) := by decide +kernel
theorem d_RangeTellerModel_passBranch_121 : decode b_RangeTellerModel_passBranch 121 = .ok (.iadd, 1) := by decide +kernel
theorem d_RangeTellerModel_passBranch_98 : decode b_RangeTellerModel_passBranch 98 = .ok (.aload_n 0, 1) := by decide +kernel
theorem d_RangeTellerModel_passBranch_99 : decode b_RangeTellerModel_passBranch 99 = .ok (.getfield 35, 3) := by decide +kernel
theorem d_RangeTellerModel_passBranch_102 : decode b_RangeTellerModel_passBranch 102 = .ok (.iload_n 1, 1) := by decide +kernel
theorem d_RangeTellerModel_passBranch_103 : decode b_RangeTellerModel_passBranch 103 = .ok (.iaload, 1) := by decide +kernel
theorem d_RangeTellerModel_passBranch_104 : decode b_RangeTellerModel_passBranch 104 = .ok (.iconst 1, 1) := by decide +kernel
theorem d_RangeTellerModel_passBranch_105 : decode b_RangeTellerModel_passBranch 105 = .ok (.iadd, 1) := by decide +kernel
theorem d_RangeTellerModel_passBranch_106 : decode b_RangeTellerModel_passBranch 106 = .ok (.goto 16, 3) := by decide +kernel
theorem d_RangeTellerModel_passBranch_0 : decode b_RangeTellerModel_passBranch 0 = .ok (.aload_n 0, 1) := by decide +kernel
theorem d_RangeTellerModel_passBranch_1 : decode b_RangeTellerModel_passBranch 1 = .ok (.getfield 35, 3) := by decide +kernel
theorem d_RangeTellerModel_passBranch_4 : decode b_RangeTellerModel_passBranch 4 = .ok (.iload_n 1, 1) := by decide +kernel
theorem d_RangeTellerModel_passBranch_5 : decode b_RangeTellerModel_passBranch 5 = .ok (.iaload, 1) := by decide +kernel
theorem d_RangeTellerModel_passBranch_6 : decode b_RangeTellerModel_passBranch 6 = .ok (.ifCond .ge 9, 3) := by decide +kernel
theorem d_RangeTellerModel_passBranch_15 : decode b_RangeTellerModel_passBranch 15 = .ok (.aload_n 0, 1) := by decide +kernel
theorem d_RangeTellerModel_passBranch_16 : decode b_RangeTellerModel_passBranch 16 = .ok (.getfield 38, 3) := by decide +kernel
theorem d_RangeTellerModel_passBranch_19 : decode b_RangeTellerModel_passBranch 19 = .ok (.iload_n 1, 1) := by decide +kernel
theorem d_RangeTellerModel_passBranch_20 : decode b_RangeTellerModel_passBranch 20 = .ok (.iaload, 1) := by decide +kernel
theorem d_RangeTellerModel_passBranch_21 : decode b_RangeTellerModel_passBranch 21 = .ok (.istore_n 2, 1) := by decide +kernel
theorem d_RangeTellerModel_passBranch_22 : decode b_RangeTellerModel_passBranch 22 = .ok (.aload_n 0, 1) := by decide +kernel
theorem d_RangeTellerModel_passBranch_23 : decode b_RangeTellerModel_passBranch 23 = .ok (.getfield 41, 3) := by decide +kernel
theorem d_RangeTellerModel_passBranch_26 : decode b_RangeTellerModel_passBranch 26 = .ok (.iload_n 1, 1) := by decide +kernel
theorem d_RangeTellerModel_passBranch_27 : decode b_RangeTellerModel_passBranch 27 = .ok (.iaload, 1) := by decide +kernel
theorem d_RangeTellerModel_passBranch_28 : decode b_RangeTellerModel_passBranch 28 = .ok (.iconst 1, 1) := by decide +kernel
theorem d_RangeTellerModel_passBranch_29 : decode b_RangeTellerModel_passBranch 29 = .ok (.if_icmp .ne 41, 3) := by decide +kernel
theorem d_RangeTellerModel_passBranch_32 : decode b_RangeTellerModel_passBranch 32 = .ok (.aload_n 0, 1) := by decide +kernel
theorem d_RangeTellerModel_passBranch_33 : decode b_RangeTellerModel_passBranch 33 = .ok (.iload_n 2, 1) := by decide +kernel
theorem d_RangeTellerModel_passBranch_34 : decode b_RangeTellerModel_passBranch 34 = .ok (.aload_n 0, 1) := by decide +kernel
theorem d_RangeTellerModel_passBranch_35 : decode b_RangeTellerModel_passBranch 35 = .ok (.getfield 135, 3) := by decide +kernel
theorem d_RangeTellerModel_passBranch_38 : decode b_RangeTellerModel_passBranch 38 = .ok (.aload_n 0, 1) := by decide +kernel
theorem d_RangeTellerModel_passBranch_39 : decode b_RangeTellerModel_passBranch 39 = .ok (.getfield 294, 3) := by decide +kernel
theorem d_RangeTellerModel_passBranch_42 : decode b_RangeTellerModel_passBranch 42 = .ok (.iconst 1, 1) := by decide +kernel
theorem d_RangeTellerModel_passBranch_43 : decode b_RangeTellerModel_passBranch 43 = .ok (.isub, 1) := by decide +kernel
theorem d_RangeTellerModel_passBranch_44 : decode b_RangeTellerModel_passBranch 44 = .ok (.iaload, 1) := by decide +kernel
theorem d_RangeTellerModel_passBranch_45 : decode b_RangeTellerModel_passBranch 45 = .ok (.aload_n 0, 1) := by decide +kernel
theorem d_RangeTellerModel_passBranch_46 : decode b_RangeTellerModel_passBranch 46 = .ok (.getfield 138, 3) := by decide +kernel
theorem d_RangeTellerModel_passBranch_49 : decode b_RangeTellerModel_passBranch 49 = .ok (.aload_n 0, 1) := by decide +kernel
theorem d_RangeTellerModel_passBranch_50 : decode b_RangeTellerModel_passBranch 50 = .ok (.getfield 294, 3) := by decide +kernel
theorem d_RangeTellerModel_passBranch_53 : decode b_RangeTellerModel_passBranch 53 = .ok (.iconst 1, 1) := by decide +kernel
theorem d_RangeTellerModel_passBranch_54 : decode b_RangeTellerModel_passBranch 54 = .ok (.isub, 1) := by decide +kernel
theorem d_RangeTellerModel_passBranch_55 : decode b_RangeTellerModel_passBranch 55 = .ok (.iaload, 1) := by decide +kernel
theorem d_RangeTellerModel_passBranch_56 : decode b_RangeTellerModel_passBranch 56 = .ok (.aload_n 0, 1) := by decide +kernel
theorem d_RangeTellerModel_passBranch_57 : decode b_RangeTellerModel_passBranch 57 = .ok (.getfield 141, 3) := by decide +kernel
theorem d_RangeTellerModel_passBranch_60 : decode b_RangeTellerModel_passBranch 60 = .ok (.aload_n 0, 1) := by decide +kernel
theorem d_RangeTellerModel_passBranch_61 : decode b_RangeTellerModel_passBranch 61 = .ok (.getfield 294, 3) := by decide +kernel
theorem d_RangeTellerModel_passBranch_64 : decode b_RangeTellerModel_passBranch 64 = .ok (.iconst 1, 1) := by decide +kernel
theorem d_RangeTellerModel_passBranch_65 : decode b_RangeTellerModel_passBranch 65 = .ok (.isub, 1) := by decide +kernel
theorem d_RangeTellerModel_passBranch_66 : decode b_RangeTellerModel_passBranch 66 = .ok (.baload, 1) := by decide +kernel
theorem d_RangeTellerModel_passBranch_67 : decode b_RangeTellerModel_passBranch 67 = .ok (.invokevirtual 319, 3) := by decide +kernel
theorem d_RangeTellerModel_passBranch_9 : decode b_RangeTellerModel_passBranch 9 = .ok (.aload_n 0, 1) := by decide +kernel
theorem d_RangeTellerModel_passBranch_10 : decode b_RangeTellerModel_passBranch 10 = .ok (.iload_n 1, 1) := by decide +kernel
theorem d_RangeTellerModel_passBranch_11 : decode b_RangeTellerModel_passBranch 11 = .ok (.invokevirtual 316, 3) := by decide +kernel
theorem d_RangeTellerModel_passBranch_14 : decode b_RangeTellerModel_passBranch 14 = .ok (.return_, 1) := by decide +kernel
theorem d_RangeTellerModel_passIf_84 : decode b_RangeTellerModel_passIf 84 = .ok (.iload_n 3, 1) := by decide +kernel
theorem d_RangeTellerModel_passIf_85 : decode b_RangeTellerModel_passIf 85 = .ok (.ifCond .ne 4, 3) := by decide +kernel
theorem d_RangeTellerModel_passIf_89 : decode b_RangeTellerModel_passIf 89 = .ok (.aload_n 0, 1) := by decide +kernel
theorem d_RangeTellerModel_passIf_90 : decode b_RangeTellerModel_passIf 90 = .ok (.getfield 17, 3) := by decide +kernel
theorem d_RangeTellerModel_passIf_93 : decode b_RangeTellerModel_passIf 93 = .ok (.iload_n 1, 1) := by decide +kernel
theorem d_RangeTellerModel_passIf_94 : decode b_RangeTellerModel_passIf 94 = .ok (.iaload, 1) := by decide +kernel
theorem d_RangeTellerModel_passIf_95 : decode b_RangeTellerModel_passIf 95 = .ok (.iconst 3, 1) := by decide +kernel
theorem d_RangeTellerModel_passIf_96 : decode b_RangeTellerModel_passIf 96 = .ok (.if_icmp .ne 13, 3) := by decide +kernel
theorem d_RangeTellerModel_passIf_109 : decode b_RangeTellerModel_passIf 109 = .ok (.aload_n 0, 1) := by decide +kernel
theorem d_RangeTellerModel_passIf_110 : decode b_RangeTellerModel_passIf 110 = .ok (.iload_n 1, 1) := by decide +kernel
theorem d_RangeTellerModel_passIf_111 : decode b_RangeTellerModel_passIf 111 = .ok (.invokevirtual 329, 3) := by decide +kernel
theorem d_RangeTellerModel_passIf_114 : decode b_RangeTellerModel_passIf 114 = .ok (.return_, 1) := by decide +kernel
theorem d_RangeTellerModel_passIf_99 : decode b_RangeTellerModel_passIf 99 = .ok (.aload_n 0, 1) := by decide +kernel
theorem d_RangeTellerModel_passIf_100 : decode b_RangeTellerModel_passIf 100 = .ok (.iload_n 1, 1) := by decide +kernel
theorem d_RangeTellerModel_passIf_101 : decode b_RangeTellerModel_passIf 101 = .ok (.iconst 1, 1) := by decide +kernel
theorem d_RangeTellerModel_passIf_102 : decode b_RangeTellerModel_passIf 102 = .ok (.iadd, 1) := by decide +kernel
theorem d_RangeTellerModel_passIf_103 : decode b_RangeTellerModel_passIf 103 = .ok (.invokevirtual 323, 3) := by decide +kernel
theorem d_RangeTellerModel_passIf_106 : decode b_RangeTellerModel_passIf 106 = .ok (.goto 8, 3) := by decide +kernel
theorem d_RangeTellerModel_passIf_88 : decode b_RangeTellerModel_passIf 88 = .ok (.return_, 1) := by decide +kernel
theorem d_RangeTellerModel_passIf_72 : decode b_RangeTellerModel_passIf 72 = .ok (.istore 4, 2) := by decide +kernel
theorem d_RangeTellerModel_passIf_74 : decode b_RangeTellerModel_passIf 74 = .ok (.iload_n 2, 1) := by decide +kernel
theorem d_RangeTellerModel_passIf_75 : decode b_RangeTellerModel_passIf 75 = .ok (.ifCond .ne 9, 3) := by decide +kernel
theorem d_RangeTellerModel_passIf_78 : decode b_RangeTellerModel_passIf 78 = .ok (.aload_n 0, 1) := by decide +kernel
theorem d_RangeTellerModel_passIf_79 : decode b_RangeTellerModel_passIf 79 = .ok (.iload 4, 2) := by decide +kernel
theorem d_RangeTellerModel_passIf_81 : decode b_RangeTellerModel_passIf 81 = .ok (.invokevirtual 323, 3) := by decide +kernel
theorem d_RangeTellerModel_passIf_64 : decode b_RangeTellerModel_passIf 64 = .ok (.iconst 1, 1) := by decide +kernel
theorem d_RangeTellerModel_passIf_65 : decode b_RangeTellerModel_passIf 65 = .ok (.iadd, 1) := by decide +kernel
theorem d_RangeTellerModel_passIf_66 : decode b_RangeTellerModel_passIf 66 = .ok (.goto 6, 3) := by decide +kernel
theorem d_RangeTellerModel_passIf_0 : decode b_RangeTellerModel_passIf 0 = .ok (.aload_n 0, 1) := by decide +kernel
theorem d_RangeTellerModel_passIf_1 : decode b_RangeTellerModel_passIf 1 = .ok (.dup, 1) := by decide +kernel
theorem d_RangeTellerModel_passIf_2 : decode b_RangeTellerModel_passIf 2 = .ok (.getfield 294, 3) := by decide +kernel
theorem d_RangeTellerModel_passIf_5 : decode b_RangeTellerModel_passIf 5 = .ok (.iconst 1, 1) := by decide +kernel
theorem d_RangeTellerModel_passIf_6 : decode b_RangeTellerModel_passIf 6 = .ok (.isub, 1) := by decide +kernel
theorem d_RangeTellerModel_passIf_7 : decode b_RangeTellerModel_passIf 7 = .ok (.putfield 294, 3) := by decide +kernel
theorem d_RangeTellerModel_passIf_10 : decode b_RangeTellerModel_passIf 10 = .ok (.aload_n 0, 1) := by decide +kernel
theorem d_RangeTellerModel_passIf_11 : decode b_RangeTellerModel_passIf 11 = .ok (.getfield 135, 3) := by decide +kernel
theorem d_RangeTellerModel_passIf_14 : decode b_RangeTellerModel_passIf 14 = .ok (.aload_n 0, 1) := by decide +kernel
theorem d_RangeTellerModel_passIf_15 : decode b_RangeTellerModel_passIf 15 = .ok (.getfield 294, 3) := by decide +kernel
theorem d_RangeTellerModel_passIf_18 : decode b_RangeTellerModel_passIf 18 = .ok (.iaload, 1) := by decide +kernel
theorem d_RangeTellerModel_passIf_19 : decode b_RangeTellerModel_passIf 19 = .ok (.istore_n 2, 1) := by decide +kernel
theorem d_RangeTellerModel_passIf_20 : decode b_RangeTellerModel_passIf 20 = .ok (.aload_n 0, 1) := by decide +kernel
theorem d_RangeTellerModel_passIf_21 : decode b_RangeTellerModel_passIf 21 = .ok (.getfield 138, 3) := by decide +kernel
theorem d_RangeTellerModel_passIf_24 : decode b_RangeTellerModel_passIf 24 = .ok (.aload_n 0, 1) := by decide +kernel
theorem d_RangeTellerModel_passIf_25 : decode b_RangeTellerModel_passIf 25 = .ok (.getfield 294, 3) := by decide +kernel
theorem d_RangeTellerModel_passIf_28 : decode b_RangeTellerModel_passIf 28 = .ok (.iaload, 1) := by decide +kernel
theorem d_RangeTellerModel_passIf_29 : decode b_RangeTellerModel_passIf 29 = .ok (.istore_n 3, 1) := by decide +kernel
theorem d_RangeTellerModel_passIf_30 : decode b_RangeTellerModel_passIf 30 = .ok (.aload_n 0, 1) := by decide +kernel
theorem d_RangeTellerModel_passIf_31 : decode b_RangeTellerModel_passIf 31 = .ok (.getfield 17, 3) := by decide +kernel
theorem d_RangeTellerModel_passIf_34 : decode b_RangeTellerModel_passIf 34 = .ok (.iload_n 1, 1) := by decide +kernel
theorem d_RangeTellerModel_passIf_35 : decode b_RangeTellerModel_passIf 35 = .ok (.iaload, 1) := by decide +kernel
theorem d_RangeTellerModel_passIf_36 : decode b_RangeTellerModel_passIf 36 = .ok (.iconst 3, 1) := by decide +kernel
theorem d_RangeTellerModel_passIf_37 : decode b_RangeTellerModel_passIf 37 = .ok (.if_icmp .ne 32, 3) := by decide +kernel
theorem d_RangeTellerModel_passIf_69 : decode b_RangeTellerModel_passIf 69 = .ok (.iload_n 1, 1) := by decide +kernel
theorem d_RangeTellerModel_passIf_70 : decode b_RangeTellerModel_passIf 70 = .ok (.iconst 1, 1) := by decide +kernel
theorem d_RangeTellerModel_passIf_71 : decode b_RangeTellerModel_passIf 71 = .ok (.iadd, 1) := by decide +kernel
theorem d_RangeTellerModel_passIf_40 : decode b_RangeTellerModel_passIf 40 = .ok (.aload_n 0, 1) := by decide +kernel
theorem d_RangeTellerModel_passIf_41 : decode b_RangeTellerModel_passIf 41 = .ok (.getfield 29, 3) := by decide +kernel
theorem d_RangeTellerModel_passIf_44 : decode b_RangeTellerModel_passIf 44 = .ok (.iload_n 1, 1) := by decide +kernel
theorem d_RangeTellerModel_passIf_45 : decode b_RangeTellerModel_passIf 45 = .ok (.iaload, 1) := by decide +kernel
theorem d_RangeTellerModel_passIf_46 : decode b_RangeTellerModel_passIf 46 = .ok (.ifCond .lt 12, 3) := by decide +kernel
theorem d_RangeTellerModel_passIf_58 : decode b_RangeTellerModel_passIf 58 = .ok (.aload_n 0, 1) := by decide +kernel
theorem d_RangeTellerModel_passIf_59 : decode b_RangeTellerModel_passIf 59 = .ok (.getfield 26, 3) := by decide +kernel
theorem d_RangeTellerModel_passIf_62 : decode b_RangeTellerModel_passIf 62 = .ok (.iload_n 1, 1) := by decide +kernel
theorem d_RangeTellerModel_passIf_63 : decode b_RangeTellerModel_passIf 63 = .ok (.iaload, 1) := by decide +kernel
theorem d_RangeTellerModel_passIf_49 : decode b_RangeTellerModel_passIf 49 = .ok (.aload_n 0, 1) := by decide +kernel
theorem d_RangeTellerModel_passIf_50 : decode b_RangeTellerModel_passIf 50 = .ok (.getfield 29, 3) := by decide +kernel
theorem d_RangeTellerModel_passIf_53 : decode b_RangeTellerModel_passIf 53 = .ok (.iload_n 1, 1) := by decide +kernel
theorem d_RangeTellerModel_passIf_54 : decode b_RangeTellerModel_passIf 54 = .ok (.iaload, 1) := by decide +kernel
theorem d_RangeTellerModel_passIf_55 : decode b_RangeTellerModel_passIf 55 = .ok (.goto 9, 3) := by decide +kernel
theorem d_RangeTellerModel_nothing_0 : decode b_RangeTellerModel_nothing 0 = .ok (.aload_n 0, 1) := by decide +kernel
theorem d_RangeTellerModel_nothing_1 : decode b_RangeTellerModel_nothing 1 = .ok (.bipush 64, 2) := by decide +kernel
theorem d_RangeTellerModel_nothing_3 : decode b_RangeTellerModel_nothing 3 = .ok (.putfield 297, 3) := by decide +kernel
theorem d_RangeTellerModel_nothing_6 : decode b_RangeTellerModel_nothing 6 = .ok (.aload_n 0, 1) := by decide +kernel
theorem d_RangeTellerModel_nothing_7 : decode b_RangeTellerModel_nothing 7 = .ok (.iconst (-1), 1) := by decide +kernel
theorem d_RangeTellerModel_nothing_8 : decode b_RangeTellerModel_nothing 8 = .ok (.putfield 300, 3) := by decide +kernel
theorem d_RangeTellerModel_nothing_11 : decode b_RangeTellerModel_nothing 11 = .ok (.aload_n 0, 1) := by decide +kernel
theorem d_RangeTellerModel_nothing_12 : decode b_RangeTellerModel_nothing 12 = .ok (.iload_n 1, 1) := by decide +kernel
theorem d_RangeTellerModel_nothing_13 : decode b_RangeTellerModel_nothing 13 = .ok (.putfield 303, 3) := by decide +kernel
theorem d_RangeTellerModel_nothing_16 : decode b_RangeTellerModel_nothing 16 = .ok (.return_, 1) := by decide +kernel
theorem d_RangeTellerModel_operate_0 : decode b_RangeTellerModel_operate 0 = .ok (.iload_n 0, 1) := by decide +kernel
theorem d_RangeTellerModel_operate_1 : decode b_RangeTellerModel_operate 1 = .ok (.tableswitch 94 19 25 #[43, 54, 65, 72, 79, 86, 90], 43) := by decide +kernel
theorem d_RangeTellerModel_operate_44 : decode b_RangeTellerModel_operate 44 = .ok (.iload_n 1, 1) := by decide +kernel
theorem d_RangeTellerModel_operate_45 : decode b_RangeTellerModel_operate 45 = .ok (.iload_n 2, 1) := by decide +kernel
theorem d_RangeTellerModel_operate_46 : decode b_RangeTellerModel_operate 46 = .ok (.if_icmp .ne 7, 3) := by decide +kernel
theorem d_RangeTellerModel_operate_53 : decode b_RangeTellerModel_operate 53 = .ok (.iconst 0, 1) := by decide +kernel
theorem d_RangeTellerModel_operate_54 : decode b_RangeTellerModel_operate 54 = .ok (.ireturn, 1) := by decide +kernel
theorem d_RangeTellerModel_operate_49 : decode b_RangeTellerModel_operate 49 = .ok (.iconst 1, 1) := by decide +kernel
theorem d_RangeTellerModel_operate_50 : decode b_RangeTellerModel_operate 50 = .ok (.goto 4, 3) := by decide +kernel
theorem d_RangeTellerModel_operate_55 : decode b_RangeTellerModel_operate 55 = .ok (.iload_n 1, 1) := by decide +kernel
theorem d_RangeTellerModel_operate_56 : decode b_RangeTellerModel_operate 56 = .ok (.iload_n 2, 1) := by decide +kernel
theorem d_RangeTellerModel_operate_57 : decode b_RangeTellerModel_operate 57 = .ok (.if_icmp .ge 7, 3) := by decide +kernel
theorem d_RangeTellerModel_operate_64 : decode b_RangeTellerModel_operate 64 = .ok (.iconst 0, 1) := by decide +kernel
theorem d_RangeTellerModel_operate_65 : decode b_RangeTellerModel_operate 65 = .ok (.ireturn, 1) := by decide +kernel
theorem d_RangeTellerModel_operate_60 : decode b_RangeTellerModel_operate 60 = .ok (.iconst 1, 1) := by decide +kernel
theorem d_RangeTellerModel_operate_61 : decode b_RangeTellerModel_operate 61 = .ok (.goto 4, 3) := by decide +kernel
theorem d_RangeTellerModel_operate_66 : decode b_RangeTellerModel_operate 66 = .ok (.iload_n 1, 1) := by decide +kernel
theorem d_RangeTellerModel_operate_67 : decode b_RangeTellerModel_operate 67 = .ok (.iload_n 2, 1) := by decide +kernel
theorem d_RangeTellerModel_operate_68 : decode b_RangeTellerModel_operate 68 = .ok (.iadd, 1) := by decide +kernel
theorem d_RangeTellerModel_operate_69 : decode b_RangeTellerModel_operate 69 = .ok (.bipush 63, 2) := by decide +kernel
theorem d_RangeTellerModel_operate_71 : decode b_RangeTellerModel_operate 71 = .ok (.iand, 1) := by decide +kernel
theorem d_RangeTellerModel_operate_72 : decode b_RangeTellerModel_operate 72 = .ok (.ireturn, 1) := by decide +kernel
theorem d_RangeTellerModel_operate_73 : decode b_RangeTellerModel_operate 73 = .ok (.iload_n 1, 1) := by decide +kernel
theorem d_RangeTellerModel_operate_74 : decode b_RangeTellerModel_operate 74 = .ok (.iload_n 2, 1) := by decide +kernel
theorem d_RangeTellerModel_operate_75 : decode b_RangeTellerModel_operate 75 = .ok (.isub, 1) := by decide +kernel
theorem d_RangeTellerModel_operate_76 : decode b_RangeTellerModel_operate 76 = .ok (.bipush 63, 2) := by decide +kernel
theorem d_RangeTellerModel_operate_78 : decode b_RangeTellerModel_operate 78 = .ok (.iand, 1) := by decide +kernel
theorem d_RangeTellerModel_operate_79 : decode b_RangeTellerModel_operate 79 = .ok (.ireturn, 1) := by decide +kernel
theorem d_RangeTellerModel_operate_80 : decode b_RangeTellerModel_operate 80 = .ok (.iload_n 1, 1) := by decide +kernel
theorem d_RangeTellerModel_operate_81 : decode b_RangeTellerModel_operate 81 = .ok (.iload_n 2, 1) := by decide +kernel
theorem d_RangeTellerModel_operate_82 : decode b_RangeTellerModel_operate 82 = .ok (.imul, 1) := by decide +kernel
theorem d_RangeTellerModel_operate_83 : decode b_RangeTellerModel_operate 83 = .ok (.bipush 63, 2) := by decide +kernel
theorem d_RangeTellerModel_operate_85 : decode b_RangeTellerModel_operate 85 = .ok (.iand, 1) := by decide +kernel
theorem d_RangeTellerModel_operate_86 : decode b_RangeTellerModel_operate 86 = .ok (.ireturn, 1) := by decide +kernel
theorem d_RangeTellerModel_operate_87 : decode b_RangeTellerModel_operate 87 = .ok (.iload_n 1, 1) := by decide +kernel
theorem d_RangeTellerModel_operate_88 : decode b_RangeTellerModel_operate 88 = .ok (.iload_n 2, 1) := by decide +kernel
theorem d_RangeTellerModel_operate_89 : decode b_RangeTellerModel_operate 89 = .ok (.idiv, 1) := by decide +kernel
theorem d_RangeTellerModel_operate_90 : decode b_RangeTellerModel_operate 90 = .ok (.ireturn, 1) := by decide +kernel
theorem d_RangeTellerModel_operate_91 : decode b_RangeTellerModel_operate 91 = .ok (.iload_n 1, 1) := by decide +kernel
theorem d_RangeTellerModel_operate_92 : decode b_RangeTellerModel_operate 92 = .ok (.iload_n 2, 1) := by decide +kernel
theorem d_RangeTellerModel_operate_93 : decode b_RangeTellerModel_operate 93 = .ok (.irem, 1) := by decide +kernel
theorem d_RangeTellerModel_operate_94 : decode b_RangeTellerModel_operate 94 = .ok (.ireturn, 1) := by decide +kernel
theorem d_RangeTellerModel_operate_95 : decode b_RangeTellerModel_operate 95 = .ok (.iload_n 1, 1) := by decide +kernel
theorem d_RangeTellerModel_operate_96 : decode b_RangeTellerModel_operate 96 = .ok (.iload_n 2, 1) := by decide +kernel
theorem d_RangeTellerModel_operate_97 : decode b_RangeTellerModel_operate 97 = .ok (.iand, 1) := by decide +kernel
theorem d_RangeTellerModel_operate_98 : decode b_RangeTellerModel_operate 98 = .ok (.ireturn, 1) := by decide +kernel
theorem d_RangeTellerModel_join_17 : decode b_RangeTellerModel_join 17 = .ok (.putfield 297, 3) := by decide +kernel
theorem d_RangeTellerModel_join_20 : decode b_RangeTellerModel_join 20 = .ok (.aload_n 0, 1) := by decide +kernel
theorem d_RangeTellerModel_join_21 : decode b_RangeTellerModel_join 21 = .ok (.iload_n 2, 1) := by decide +kernel
theorem d_RangeTellerModel_join_22 : decode b_RangeTellerModel_join 22 = .ok (.aload_n 0, 1) := by decide +kernel
theorem d_RangeTellerModel_join_23 : decode b_RangeTellerModel_join 23 = .ok (.getfield 300, 3) := by decide +kernel
theorem d_RangeTellerModel_join_26 : decode b_RangeTellerModel_join 26 = .ok (.if_icmp .le 7, 3) := by decide +kernel
theorem d_RangeTellerModel_join_33 : decode b_RangeTellerModel_join 33 = .ok (.aload_n 0, 1) := by decide +kernel
theorem d_RangeTellerModel_join_34 : decode b_RangeTellerModel_join 34 = .ok (.getfield 300, 3) := by decide +kernel
theorem d_RangeTellerModel_join_37 : decode b_RangeTellerModel_join 37 = .ok (.putfield 300, 3) := by decide +kernel
theorem d_RangeTellerModel_join_40 : decode b_RangeTellerModel_join 40 = .ok (.return_, 1) := by decide +kernel
theorem d_RangeTellerModel_join_29 : decode b_RangeTellerModel_join 29 = .ok (.iload_n 2, 1) := by decide +kernel
theorem d_RangeTellerModel_join_30 : decode b_RangeTellerModel_join 30 = .ok (.goto 7, 3) := by decide +kernel
theorem d_RangeTellerModel_join_0 : decode b_RangeTellerModel_join 0 = .ok (.aload_n 0, 1) := by decide +kernel
theorem d_RangeTellerModel_join_1 : decode b_RangeTellerModel_join 1 = .ok (.iload_n 1, 1) := by decide +kernel
theorem d_RangeTellerModel_join_2 : decode b_RangeTellerModel_join 2 = .ok (.aload_n 0, 1) := by decide +kernel
theorem d_RangeTellerModel_join_3 : decode b_RangeTellerModel_join 3 = .ok (.getfield 297, 3) := by decide +kernel
theorem d_RangeTellerModel_join_6 : decode b_RangeTellerModel_join 6 = .ok (.if_icmp .ge 7, 3) := by decide +kernel
theorem d_RangeTellerModel_join_13 : decode b_RangeTellerModel_join 13 = .ok (.aload_n 0, 1) := by decide +kernel
theorem d_RangeTellerModel_join_14 : decode b_RangeTellerModel_join 14 = .ok (.getfield 297, 3) := by decide +kernel
theorem d_RangeTellerModel_join_9 : decode b_RangeTellerModel_join 9 = .ok (.iload_n 1, 1) := by decide +kernel
theorem d_RangeTellerModel_join_10 : decode b_RangeTellerModel_join 10 = .ok (.goto 7, 3) := by decide +kernel
theorem d_RangeTellerModel_pairs_117 : decode b_RangeTellerModel_pairs 117 = .ok (.iinc 5 1, 3) := by decide +kernel
theorem d_RangeTellerModel_pairs_120 : decode b_RangeTellerModel_pairs 120 = .ok (.goto (-52), 3) := by decide +kernel
theorem d_RangeTellerModel_pairs_99 : decode b_RangeTellerModel_pairs 99 = .ok (.iload_n 1, 1) := by decide +kernel
theorem d_RangeTellerModel_pairs_100 : decode b_RangeTellerModel_pairs 100 = .ok (.iload 4, 2) := by decide +kernel
theorem d_RangeTellerModel_pairs_102 : decode b_RangeTellerModel_pairs 102 = .ok (.iload 5, 2) := by decide +kernel
theorem d_RangeTellerModel_pairs_104 : decode b_RangeTellerModel_pairs 104 = .ok (.invokestatic 269, 3) := by decide +kernel
theorem d_RangeTellerModel_pairs_107 : decode b_RangeTellerModel_pairs 107 = .ok (.istore 6, 2) := by decide +kernel
theorem d_RangeTellerModel_pairs_109 : decode b_RangeTellerModel_pairs 109 = .ok (.aload_n 0, 1) := by decide +kernel
theorem d_RangeTellerModel_pairs_110 : decode b_RangeTellerModel_pairs 110 = .ok (.iload 6, 2) := by decide +kernel
theorem d_RangeTellerModel_pairs_112 : decode b_RangeTellerModel_pairs 112 = .ok (.iload 6, 2) := by decide +kernel
theorem d_RangeTellerModel_pairs_114 : decode b_RangeTellerModel_pairs 114 = .ok (.invokevirtual 310, 3) := by decide +kernel
theorem d_RangeTellerModel_pairs_68 : decode b_RangeTellerModel_pairs 68 = .ok (.iload 5, 2) := by decide +kernel
theorem d_RangeTellerModel_pairs_70 : decode b_RangeTellerModel_pairs 70 = .ok (.aload_n 0, 1) := by decide +kernel
theorem d_RangeTellerModel_pairs_71 : decode b_RangeTellerModel_pairs 71 = .ok (.getfield 138, 3) := by decide +kernel
theorem d_RangeTellerModel_pairs_74 : decode b_RangeTellerModel_pairs 74 = .ok (.iload_n 3, 1) := by decide +kernel
theorem d_RangeTellerModel_pairs_75 : decode b_RangeTellerModel_pairs 75 = .ok (.iaload, 1) := by decide +kernel
theorem d_RangeTellerModel_pairs_76 : decode b_RangeTellerModel_pairs 76 = .ok (.if_icmp .gt 47, 3) := by decide +kernel
theorem d_RangeTellerModel_pairs_123 : decode b_RangeTellerModel_pairs 123 = .ok (.iinc 4 1, 3) := by decide +kernel
theorem d_RangeTellerModel_pairs_126 : decode b_RangeTellerModel_pairs 126 = .ok (.goto (-77), 3) := by decide +kernel
theorem d_RangeTellerModel_pairs_79 : decode b_RangeTellerModel_pairs 79 = .ok (.iload 5, 2) := by decide +kernel
theorem d_RangeTellerModel_pairs_81 : decode b_RangeTellerModel_pairs 81 = .ok (.ifCond .ne 18, 3) := by decide +kernel
theorem d_RangeTellerModel_pairs_84 : decode b_RangeTellerModel_pairs 84 = .ok (.iload_n 1, 1) := by decide +kernel
theorem d_RangeTellerModel_pairs_85 : decode b_RangeTellerModel_pairs 85 = .ok (.bipush 24, 2) := by decide +kernel
theorem d_RangeTellerModel_pairs_87 : decode b_RangeTellerModel_pairs 87 = .ok (.if_icmp .eq 30, 3) := by decide +kernel
theorem d_RangeTellerModel_pairs_90 : decode b_RangeTellerModel_pairs 90 = .ok (.iload_n 1, 1) := by decide +kernel
theorem d_RangeTellerModel_pairs_91 : decode b_RangeTellerModel_pairs 91 = .ok (.bipush 25, 2) := by decide +kernel
theorem d_RangeTellerModel_pairs_93 : decode b_RangeTellerModel_pairs 93 = .ok (.if_icmp .ne 6, 3) := by decide +kernel
theorem d_RangeTellerModel_pairs_96 : decode b_RangeTellerModel_pairs 96 = .ok (.goto 21, 3) := by decide +kernel
theorem d_RangeTellerModel_pairs_49 : decode b_RangeTellerModel_pairs 49 = .ok (.iload 4, 2) := by decide +kernel
theorem d_RangeTellerModel_pairs_51 : decode b_RangeTellerModel_pairs 51 = .ok (.aload_n 0, 1) := by decide +kernel
theorem d_RangeTellerModel_pairs_52 : decode b_RangeTellerModel_pairs 52 = .ok (.getfield 138, 3) := by decide +kernel
theorem d_RangeTellerModel_pairs_55 : decode b_RangeTellerModel_pairs 55 = .ok (.iload_n 2, 1) := by decide +kernel
theorem d_RangeTellerModel_pairs_56 : decode b_RangeTellerModel_pairs 56 = .ok (.iaload, 1) := by decide +kernel
theorem d_RangeTellerModel_pairs_57 : decode b_RangeTellerModel_pairs 57 = .ok (.if_icmp .gt 72, 3) := by decide +kernel
theorem d_RangeTellerModel_pairs_129 : decode b_RangeTellerModel_pairs 129 = .ok (.return_, 1) := by decide +kernel
theorem d_RangeTellerModel_pairs_60 : decode b_RangeTellerModel_pairs 60 = .ok (.aload_n 0, 1) := by decide +kernel
theorem d_RangeTellerModel_pairs_61 : decode b_RangeTellerModel_pairs 61 = .ok (.getfield 135, 3) := by decide +kernel
theorem d_RangeTellerModel_pairs_64 : decode b_RangeTellerModel_pairs 64 = .ok (.iload_n 3, 1) := by decide +kernel
theorem d_RangeTellerModel_pairs_65 : decode b_RangeTellerModel_pairs 65 = .ok (.iaload, 1) := by decide +kernel
theorem d_RangeTellerModel_pairs_66 : decode b_RangeTellerModel_pairs 66 = .ok (.istore 5, 2) := by decide +kernel
theorem d_RangeTellerModel_pairs_38 : decode b_RangeTellerModel_pairs 38 = .ok (.invokevirtual 306, 3) := by decide +kernel
theorem d_RangeTellerModel_pairs_41 : decode b_RangeTellerModel_pairs 41 = .ok (.aload_n 0, 1) := by decide +kernel
theorem d_RangeTellerModel_pairs_42 : decode b_RangeTellerModel_pairs 42 = .ok (.getfield 135, 3) := by decide +kernel
theorem d_RangeTellerModel_pairs_45 : decode b_RangeTellerModel_pairs 45 = .ok (.iload_n 2, 1) := by decide +kernel
theorem d_RangeTellerModel_pairs_46 : decode b_RangeTellerModel_pairs 46 = .ok (.iaload, 1) := by decide +kernel
theorem d_RangeTellerModel_pairs_47 : decode b_RangeTellerModel_pairs 47 = .ok (.istore 4, 2) := by decide +kernel
theorem d_RangeTellerModel_pairs_33 : decode b_RangeTellerModel_pairs 33 = .ok (.iconst 1, 1) := by decide +kernel
theorem d_RangeTellerModel_pairs_34 : decode b_RangeTellerModel_pairs 34 = .ok (.goto 4, 3) := by decide +kernel
theorem d_RangeTellerModel_pairs_0 : decode b_RangeTellerModel_pairs 0 = .ok (.aload_n 0, 1) := by decide +kernel
theorem d_RangeTellerModel_pairs_1 : decode b_RangeTellerModel_pairs 1 = .ok (.getfield 294, 3) := by decide +kernel
theorem d_RangeTellerModel_pairs_4 : decode b_RangeTellerModel_pairs 4 = .ok (.iconst 2, 1) := by decide +kernel
theorem d_RangeTellerModel_pairs_5 : decode b_RangeTellerModel_pairs 5 = .ok (.isub, 1) := by decide +kernel
theorem d_RangeTellerModel_pairs_6 : decode b_RangeTellerModel_pairs 6 = .ok (.istore_n 2, 1) := by decide +kernel
theorem d_RangeTellerModel_pairs_7 : decode b_RangeTellerModel_pairs 7 = .ok (.aload_n 0, 1) := by decide +kernel
theorem d_RangeTellerModel_pairs_8 : decode b_RangeTellerModel_pairs 8 = .ok (.getfield 294, 3) := by decide +kernel
theorem d_RangeTellerModel_pairs_11 : decode b_RangeTellerModel_pairs 11 = .ok (.iconst 1, 1) := by decide +kernel
theorem d_RangeTellerModel_pairs_12 : decode b_RangeTellerModel_pairs 12 = .ok (.isub, 1) := by decide +kernel
theorem d_RangeTellerModel_pairs_13 : decode b_RangeTellerModel_pairs 13 = .ok (.istore_n 3, 1) := by decide +kernel
theorem d_RangeTellerModel_pairs_14 : decode b_RangeTellerModel_pairs 14 = .ok (.aload_n 0, 1) := by decide +kernel
theorem d_RangeTellerModel_pairs_15 : decode b_RangeTellerModel_pairs 15 = .ok (.aload_n 0, 1) := by decide +kernel
theorem d_RangeTellerModel_pairs_16 : decode b_RangeTellerModel_pairs 16 = .ok (.getfield 141, 3) := by decide +kernel
theorem d_RangeTellerModel_pairs_19 : decode b_RangeTellerModel_pairs 19 = .ok (.iload_n 2, 1) := by decide +kernel
theorem d_RangeTellerModel_pairs_20 : decode b_RangeTellerModel_pairs 20 = .ok (.baload, 1) := by decide +kernel
theorem d_RangeTellerModel_pairs_21 : decode b_RangeTellerModel_pairs 21 = .ok (.ifCond .ne 12, 3) := by decide +kernel
theorem d_RangeTellerModel_pairs_24 : decode b_RangeTellerModel_pairs 24 = .ok (.aload_n 0, 1) := by decide +kernel
theorem d_RangeTellerModel_pairs_25 : decode b_RangeTellerModel_pairs 25 = .ok (.getfield 141, 3) := by decide +kernel
theorem d_RangeTellerModel_pairs_28 : decode b_RangeTellerModel_pairs 28 = .ok (.iload_n 3, 1) := by decide +kernel
theorem d_RangeTellerModel_pairs_29 : decode b_RangeTellerModel_pairs 29 = .ok (.baload, 1) := by decide +kernel
theorem d_RangeTellerModel_pairs_30 : decode b_RangeTellerModel_pairs 30 = .ok (.ifCond .eq 7, 3) := by decide +kernel
theorem d_RangeTellerModel_pairs_37 : decode b_RangeTellerModel_pairs 37 = .ok (.iconst 0, 1) := by decide +kernel
theorem d_RangeTellerModel_pick_131 : decode b_RangeTellerModel_pick 131 = .ok (.aload_n 0, 1) := by decide +kernel
theorem d_RangeTellerModel_pick_132 : decode b_RangeTellerModel_pick 132 = .ok (.aload_n 0, 1) := by decide +kernel
theorem d_RangeTellerModel_pick_133 : decode b_RangeTellerModel_pick 133 = .ok (.getfield 294, 3) := by decide +kernel
theorem d_RangeTellerModel_pick_136 : decode b_RangeTellerModel_pick 136 = .ok (.iconst 2, 1) := by decide +kernel
theorem d_RangeTellerModel_pick_137 : decode b_RangeTellerModel_pick 137 = .ok (.isub, 1) := by decide +kernel
theorem d_RangeTellerModel_pick_138 : decode b_RangeTellerModel_pick 138 = .ok (.putfield 294, 3) := by decide +kernel
theorem d_RangeTellerModel_pick_141 : decode b_RangeTellerModel_pick 141 = .ok (.aload_n 0, 1) := by decide +kernel
theorem d_RangeTellerModel_pick_142 : decode b_RangeTellerModel_pick 142 = .ok (.aload_n 0, 1) := by decide +kernel
theorem d_RangeTellerModel_pick_143 : decode b_RangeTellerModel_pick 143 = .ok (.getfield 294, 3) := by decide +kernel
theorem d_RangeTellerModel_pick_146 : decode b_RangeTellerModel_pick 146 = .ok (.iconst 1, 1) := by decide +kernel
theorem d_RangeTellerModel_pick_147 : decode b_RangeTellerModel_pick 147 = .ok (.isub, 1) := by decide +kernel
theorem d_RangeTellerModel_pick_148 : decode b_RangeTellerModel_pick 148 = .ok (.aload_n 0, 1) := by decide +kernel
theorem d_RangeTellerModel_pick_149 : decode b_RangeTellerModel_pick 149 = .ok (.getfield 297, 3) := by decide +kernel
theorem d_RangeTellerModel_pick_152 : decode b_RangeTellerModel_pick 152 = .ok (.aload_n 0, 1) := by decide +kernel
theorem d_RangeTellerModel_pick_153 : decode b_RangeTellerModel_pick 153 = .ok (.getfield 300, 3) := by decide +kernel
theorem d_RangeTellerModel_pick_156 : decode b_RangeTellerModel_pick 156 = .ok (.aload_n 0, 1) := by decide +kernel
theorem d_RangeTellerModel_pick_157 : decode b_RangeTellerModel_pick 157 = .ok (.getfield 303, 3) := by decide +kernel
theorem d_RangeTellerModel_pick_160 : decode b_RangeTellerModel_pick 160 = .ok (.invokevirtual 319, 3) := by decide +kernel
theorem d_RangeTellerModel_pick_163 : decode b_RangeTellerModel_pick 163 = .ok (.return_, 1) := by decide +kernel
theorem d_RangeTellerModel_pick_128 : decode b_RangeTellerModel_pick 128 = .ok (.putfield 303, 3) := by decide +kernel
theorem d_RangeTellerModel_pick_123 : decode b_RangeTellerModel_pick 123 = .ok (.iconst 1, 1) := by decide +kernel
theorem d_RangeTellerModel_pick_124 : decode b_RangeTellerModel_pick 124 = .ok (.goto 4, 3) := by decide +kernel
theorem d_RangeTellerModel_pick_81 : decode b_RangeTellerModel_pick 81 = .ok (.aload_n 0, 1) := by decide +kernel
theorem d_RangeTellerModel_pick_82 : decode b_RangeTellerModel_pick 82 = .ok (.getfield 135, 3) := by decide +kernel
theorem d_RangeTellerModel_pick_85 : decode b_RangeTellerModel_pick 85 = .ok (.iload_n 1, 1) := by decide +kernel
theorem d_RangeTellerModel_pick_86 : decode b_RangeTellerModel_pick 86 = .ok (.iaload, 1) := by decide +kernel
theorem d_RangeTellerModel_pick_87 : decode b_RangeTellerModel_pick 87 = .ok (.ifCond .ne 44, 3) := by decide +kernel
theorem d_RangeTellerModel_pick_90 : decode b_RangeTellerModel_pick 90 = .ok (.aload_n 0, 1) := by decide +kernel
theorem d_RangeTellerModel_pick_91 : decode b_RangeTellerModel_pick 91 = .ok (.aload_n 0, 1) := by decide +kernel
theorem d_RangeTellerModel_pick_92 : decode b_RangeTellerModel_pick 92 = .ok (.getfield 135, 3) := by decide +kernel
theorem d_RangeTellerModel_pick_95 : decode b_RangeTellerModel_pick 95 = .ok (.iload_n 2, 1) := by decide +kernel
theorem d_RangeTellerModel_pick_96 : decode b_RangeTellerModel_pick 96 = .ok (.iaload, 1) := by decide +kernel
theorem d_RangeTellerModel_pick_97 : decode b_RangeTellerModel_pick 97 = .ok (.aload_n 0, 1) := by decide +kernel
theorem d_RangeTellerModel_pick_98 : decode b_RangeTellerModel_pick 98 = .ok (.getfield 138, 3) := by decide +kernel
theorem d_RangeTellerModel_pick_101 : decode b_RangeTellerModel_pick 101 = .ok (.iload_n 2, 1) := by decide +kernel
theorem d_RangeTellerModel_pick_102 : decode b_RangeTellerModel_pick 102 = .ok (.iaload, 1) := by decide +kernel
theorem d_RangeTellerModel_pick_103 : decode b_RangeTellerModel_pick 103 = .ok (.invokevirtual 310, 3) := by decide +kernel
theorem d_RangeTellerModel_pick_106 : decode b_RangeTellerModel_pick 106 = .ok (.aload_n 0, 1) := by decide +kernel
theorem d_RangeTellerModel_pick_107 : decode b_RangeTellerModel_pick 107 = .ok (.aload_n 0, 1) := by decide +kernel
theorem d_RangeTellerModel_pick_108 : decode b_RangeTellerModel_pick 108 = .ok (.getfield 303, 3) := by decide +kernel
theorem d_RangeTellerModel_pick_111 : decode b_RangeTellerModel_pick 111 = .ok (.ifCond .ne 12, 3) := by decide +kernel
theorem d_RangeTellerModel_pick_114 : decode b_RangeTellerModel_pick 114 = .ok (.aload_n 0, 1) := by decide +kernel
theorem d_RangeTellerModel_pick_115 : decode b_RangeTellerModel_pick 115 = .ok (.getfield 141, 3) := by decide +kernel
theorem d_RangeTellerModel_pick_118 : decode b_RangeTellerModel_pick 118 = .ok (.iload_n 2, 1) := by decide +kernel
theorem d_RangeTellerModel_pick_119 : decode b_RangeTellerModel_pick 119 = .ok (.baload, 1) := by decide +kernel
theorem d_RangeTellerModel_pick_120 : decode b_RangeTellerModel_pick 120 = .ok (.ifCond .eq 7, 3) := by decide +kernel
theorem d_RangeTellerModel_pick_127 : decode b_RangeTellerModel_pick 127 = .ok (.iconst 0, 1) := by decide +kernel
theorem d_RangeTellerModel_pick_78 : decode b_RangeTellerModel_pick 78 = .ok (.putfield 303, 3) := by decide +kernel
theorem d_RangeTellerModel_pick_73 : decode b_RangeTellerModel_pick 73 = .ok (.iconst 1, 1) := by decide +kernel
theorem d_RangeTellerModel_pick_74 : decode b_RangeTellerModel_pick 74 = .ok (.goto 4, 3) := by decide +kernel
theorem d_RangeTellerModel_pick_0 : decode b_RangeTellerModel_pick 0 = .ok (.aload_n 0, 1) := by decide +kernel
theorem d_RangeTellerModel_pick_1 : decode b_RangeTellerModel_pick 1 = .ok (.getfield 294, 3) := by decide +kernel
theorem d_RangeTellerModel_pick_4 : decode b_RangeTellerModel_pick 4 = .ok (.iconst 1, 1) := by decide +kernel
theorem d_RangeTellerModel_pick_5 : decode b_RangeTellerModel_pick 5 = .ok (.isub, 1) := by decide +kernel
theorem d_RangeTellerModel_pick_6 : decode b_RangeTellerModel_pick 6 = .ok (.istore_n 1, 1) := by decide +kernel
theorem d_RangeTellerModel_pick_7 : decode b_RangeTellerModel_pick 7 = .ok (.aload_n 0, 1) := by decide +kernel
theorem d_RangeTellerModel_pick_8 : decode b_RangeTellerModel_pick 8 = .ok (.getfield 294, 3) := by decide +kernel
theorem d_RangeTellerModel_pick_11 : decode b_RangeTellerModel_pick 11 = .ok (.iconst 2, 1) := by decide +kernel
theorem d_RangeTellerModel_pick_12 : decode b_RangeTellerModel_pick 12 = .ok (.isub, 1) := by decide +kernel
theorem d_RangeTellerModel_pick_13 : decode b_RangeTellerModel_pick 13 = .ok (.istore_n 2, 1) := by decide +kernel
theorem d_RangeTellerModel_pick_14 : decode b_RangeTellerModel_pick 14 = .ok (.aload_n 0, 1) := by decide +kernel
theorem d_RangeTellerModel_pick_15 : decode b_RangeTellerModel_pick 15 = .ok (.getfield 294, 3) := by decide +kernel
theorem d_RangeTellerModel_pick_18 : decode b_RangeTellerModel_pick 18 = .ok (.iconst 3, 1) := by decide +kernel
theorem d_RangeTellerModel_pick_19 : decode b_RangeTellerModel_pick 19 = .ok (.isub, 1) := by decide +kernel
theorem d_RangeTellerModel_pick_20 : decode b_RangeTellerModel_pick 20 = .ok (.istore_n 3, 1) := by decide +kernel
theorem d_RangeTellerModel_pick_21 : decode b_RangeTellerModel_pick 21 = .ok (.aload_n 0, 1) := by decide +kernel
theorem d_RangeTellerModel_pick_22 : decode b_RangeTellerModel_pick 22 = .ok (.aload_n 0, 1) := by decide +kernel
theorem d_RangeTellerModel_pick_23 : decode b_RangeTellerModel_pick 23 = .ok (.getfield 141, 3) := by decide +kernel
theorem d_RangeTellerModel_pick_26 : decode b_RangeTellerModel_pick 26 = .ok (.iload_n 1, 1) := by decide +kernel
theorem d_RangeTellerModel_pick_27 : decode b_RangeTellerModel_pick 27 = .ok (.baload, 1) := by decide +kernel
theorem d_RangeTellerModel_pick_28 : decode b_RangeTellerModel_pick 28 = .ok (.invokevirtual 306, 3) := by decide +kernel
theorem d_RangeTellerModel_pick_31 : decode b_RangeTellerModel_pick 31 = .ok (.aload_n 0, 1) := by decide +kernel
theorem d_RangeTellerModel_pick_32 : decode b_RangeTellerModel_pick 32 = .ok (.getfield 138, 3) := by decide +kernel
theorem d_RangeTellerModel_pick_35 : decode b_RangeTellerModel_pick 35 = .ok (.iload_n 1, 1) := by decide +kernel
theorem d_RangeTellerModel_pick_36 : decode b_RangeTellerModel_pick 36 = .ok (.iaload, 1) := by decide +kernel
theorem d_RangeTellerModel_pick_37 : decode b_RangeTellerModel_pick 37 = .ok (.ifCond .le 44, 3) := by decide +kernel
theorem d_RangeTellerModel_pick_40 : decode b_RangeTellerModel_pick 40 = .ok (.aload_n 0, 1) := by decide +kernel
theorem d_RangeTellerModel_pick_41 : decode b_RangeTellerModel_pick 41 = .ok (.aload_n 0, 1) := by decide +kernel
theorem d_RangeTellerModel_pick_42 : decode b_RangeTellerModel_pick 42 = .ok (.getfield 135, 3) := by decide +kernel
theorem d_RangeTellerModel_pick_45 : decode b_RangeTellerModel_pick 45 = .ok (.iload_n 3, 1) := by decide +kernel
theorem d_RangeTellerModel_pick_46 : decode b_RangeTellerModel_pick 46 = .ok (.iaload, 1) := by decide +kernel
theorem d_RangeTellerModel_pick_47 : decode b_RangeTellerModel_pick 47 = .ok (.aload_n 0, 1) := by decide +kernel
theorem d_RangeTellerModel_pick_48 : decode b_RangeTellerModel_pick 48 = .ok (.getfield 138, 3) := by decide +kernel
theorem d_RangeTellerModel_pick_51 : decode b_RangeTellerModel_pick 51 = .ok (.iload_n 3, 1) := by decide +kernel
theorem d_RangeTellerModel_pick_52 : decode b_RangeTellerModel_pick 52 = .ok (.iaload, 1) := by decide +kernel
theorem d_RangeTellerModel_pick_53 : decode b_RangeTellerModel_pick 53 = .ok (.invokevirtual 310, 3) := by decide +kernel
theorem d_RangeTellerModel_pick_56 : decode b_RangeTellerModel_pick 56 = .ok (.aload_n 0, 1) := by decide +kernel
theorem d_RangeTellerModel_pick_57 : decode b_RangeTellerModel_pick 57 = .ok (.aload_n 0, 1) := by decide +kernel
theorem d_RangeTellerModel_pick_58 : decode b_RangeTellerModel_pick 58 = .ok (.getfield 303, 3) := by decide +kernel
theorem d_RangeTellerModel_pick_61 : decode b_RangeTellerModel_pick 61 = .ok (.ifCond .ne 12, 3) := by decide +kernel
theorem d_RangeTellerModel_pick_64 : decode b_RangeTellerModel_pick 64 = .ok (.aload_n 0, 1) := by decide +kernel
theorem d_RangeTellerModel_pick_65 : decode b_RangeTellerModel_pick 65 = .ok (.getfield 141, 3) := by decide +kernel
theorem d_RangeTellerModel_pick_68 : decode b_RangeTellerModel_pick 68 = .ok (.iload_n 3, 1) := by decide +kernel
theorem d_RangeTellerModel_pick_69 : decode b_RangeTellerModel_pick 69 = .ok (.baload, 1) := by decide +kernel
theorem d_RangeTellerModel_pick_70 : decode b_RangeTellerModel_pick 70 = .ok (.ifCond .eq 7, 3) := by decide +kernel
theorem d_RangeTellerModel_pick_77 : decode b_RangeTellerModel_pick 77 = .ok (.iconst 0, 1) := by decide +kernel
theorem d_RangeTellerModel_leaves_34 : decode b_RangeTellerModel_leaves 34 = .ok (.aload_n 0, 1) := by decide +kernel
theorem d_RangeTellerModel_leaves_35 : decode b_RangeTellerModel_leaves 35 = .ok (.dup, 1) := by decide +kernel
theorem d_RangeTellerModel_leaves_36 : decode b_RangeTellerModel_leaves 36 = .ok (.getfield 294, 3) := by decide +kernel
theorem d_RangeTellerModel_leaves_39 : decode b_RangeTellerModel_leaves 39 = .ok (.iconst 1, 1) := by decide +kernel
theorem d_RangeTellerModel_leaves_40 : decode b_RangeTellerModel_leaves 40 = .ok (.isub, 1) := by decide +kernel
theorem d_RangeTellerModel_leaves_41 : decode b_RangeTellerModel_leaves 41 = .ok (.putfield 294, 3) := by decide +kernel
theorem d_RangeTellerModel_leaves_44 : decode b_RangeTellerModel_leaves 44 = .ok (.goto 317, 3) := by decide +kernel
theorem d_RangeTellerModel_leaves_361 : decode b_RangeTellerModel_leaves 361 = .ok (.iconst 1, 1) := by decide +kernel
theorem d_RangeTellerModel_leaves_362 : decode b_RangeTellerModel_leaves 362 = .ok (.ireturn, 1) := by decide +kernel
theorem d_RangeTellerModel_leaves_117 : decode b_RangeTellerModel_leaves 117 = .ok (.aload_n 0, 1) := by decide +kernel
theorem d_RangeTellerModel_leaves_118 : decode b_RangeTellerModel_leaves 118 = .ok (.getfield 144, 3) := by decide +kernel
theorem d_RangeTellerModel_leaves_121 : decode b_RangeTellerModel_leaves 121 = .ok (.iload_n 3, 1) := by decide +kernel
theorem d_RangeTellerModel_leaves_122 : decode b_RangeTellerModel_leaves 122 = .ok (.aload_n 0, 1) := by decide +kernel
theorem d_RangeTellerModel_leaves_123 : decode b_RangeTellerModel_leaves 123 = .ok (.getfield 135, 3) := by decide +kernel
theorem d_RangeTellerModel_leaves_126 : decode b_RangeTellerModel_leaves 126 = .ok (.iload 4, 2) := by decide +kernel
theorem d_RangeTellerModel_leaves_128 : decode b_RangeTellerModel_leaves 128 = .ok (.iaload, 1) := by decide +kernel
theorem d_RangeTellerModel_leaves_129 : decode b_RangeTellerModel_leaves 129 = .ok (.iastore, 1) := by decide +kernel
theorem d_RangeTellerModel_leaves_130 : decode b_RangeTellerModel_leaves 130 = .ok (.aload_n 0, 1) := by decide +kernel
theorem d_RangeTellerModel_leaves_131 : decode b_RangeTellerModel_leaves 131 = .ok (.getfield 147, 3) := by decide +kernel
theorem d_RangeTellerModel_leaves_134 : decode b_RangeTellerModel_leaves 134 = .ok (.iload_n 3, 1) := by decide +kernel
theorem d_RangeTellerModel_leaves_135 : decode b_RangeTellerModel_leaves 135 = .ok (.aload_n 0, 1) := by decide +kernel
theorem d_RangeTellerModel_leaves_136 : decode b_RangeTellerModel_leaves 136 = .ok (.getfield 138, 3) := by decide +kernel
theorem d_RangeTellerModel_leaves_139 : decode b_RangeTellerModel_leaves 139 = .ok (.iload 4, 2) := by decide +kernel
theorem d_RangeTellerModel_leaves_141 : decode b_RangeTellerModel_leaves 141 = .ok (.iaload, 1) := by decide +kernel
theorem d_RangeTellerModel_leaves_142 : decode b_RangeTellerModel_leaves 142 = .ok (.iastore, 1) := by decide +kernel
