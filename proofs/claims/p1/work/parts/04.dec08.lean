theorem d_RangeTellerModel_input_34 : decode b_RangeTellerModel_input 34 = .ok (.getfield 239, 3) := by decide +kernel
theorem d_RangeTellerModel_input_37 : decode b_RangeTellerModel_input 37 = .ok (.iconst 1, 1) := by decide +kernel
theorem d_RangeTellerModel_input_38 : decode b_RangeTellerModel_input 38 = .ok (.iadd, 1) := by decide +kernel
theorem d_RangeTellerModel_input_39 : decode b_RangeTellerModel_input 39 = .ok (.putfield 239, 3) := by decide +kernel
theorem d_RangeTellerModel_input_42 : decode b_RangeTellerModel_input 42 = .ok (.aload_n 0, 1) := by decide +kernel
theorem d_RangeTellerModel_input_43 : decode b_RangeTellerModel_input 43 = .ok (.getfield 239, 3) := by decide +kernel
theorem d_RangeTellerModel_input_46 : decode b_RangeTellerModel_input 46 = .ok (.ireturn, 1) := by decide +kernel
theorem d_RangeTellerModel_pop_0 : decode b_RangeTellerModel_pop 0 = .ok (.aload_n 0, 1) := by decide +kernel
theorem d_RangeTellerModel_pop_1 : decode b_RangeTellerModel_pop 1 = .ok (.getfield 81, 3) := by decide +kernel
theorem d_RangeTellerModel_pop_4 : decode b_RangeTellerModel_pop 4 = .ok (.aload_n 0, 1) := by decide +kernel
theorem d_RangeTellerModel_pop_5 : decode b_RangeTellerModel_pop 5 = .ok (.getfield 242, 3) := by decide +kernel
theorem d_RangeTellerModel_pop_8 : decode b_RangeTellerModel_pop 8 = .ok (.dup2, 1) := by decide +kernel
theorem d_RangeTellerModel_pop_9 : decode b_RangeTellerModel_pop 9 = .ok (.iaload, 1) := by decide +kernel
theorem d_RangeTellerModel_pop_10 : decode b_RangeTellerModel_pop 10 = .ok (.iconst 1, 1) := by decide +kernel
theorem d_RangeTellerModel_pop_11 : decode b_RangeTellerModel_pop 11 = .ok (.isub, 1) := by decide +kernel
theorem d_RangeTellerModel_pop_12 : decode b_RangeTellerModel_pop 12 = .ok (.iastore, 1) := by decide +kernel
theorem d_RangeTellerModel_pop_13 : decode b_RangeTellerModel_pop 13 = .ok (.aload_n 0, 1) := by decide +kernel
theorem d_RangeTellerModel_pop_14 : decode b_RangeTellerModel_pop 14 = .ok (.getfield 75, 3) := by decide +kernel
theorem d_RangeTellerModel_pop_17 : decode b_RangeTellerModel_pop 17 = .ok (.bipush 10, 2) := by decide +kernel
theorem d_RangeTellerModel_pop_19 : decode b_RangeTellerModel_pop 19 = .ok (.aload_n 0, 1) := by decide +kernel
theorem d_RangeTellerModel_pop_20 : decode b_RangeTellerModel_pop 20 = .ok (.getfield 242, 3) := by decide +kernel
theorem d_RangeTellerModel_pop_23 : decode b_RangeTellerModel_pop 23 = .ok (.imul, 1) := by decide +kernel
theorem d_RangeTellerModel_pop_24 : decode b_RangeTellerModel_pop 24 = .ok (.aload_n 0, 1) := by decide +kernel
theorem d_RangeTellerModel_pop_25 : decode b_RangeTellerModel_pop 25 = .ok (.getfield 81, 3) := by decide +kernel
theorem d_RangeTellerModel_pop_28 : decode b_RangeTellerModel_pop 28 = .ok (.aload_n 0, 1) := by decide +kernel
theorem d_RangeTellerModel_pop_29 : decode b_RangeTellerModel_pop 29 = .ok (.getfield 242, 3) := by decide +kernel
theorem d_RangeTellerModel_pop_32 : decode b_RangeTellerModel_pop 32 = .ok (.iaload, 1) := by decide +kernel
theorem d_RangeTellerModel_pop_33 : decode b_RangeTellerModel_pop 33 = .ok (.iadd, 1) := by decide +kernel
theorem d_RangeTellerModel_pop_34 : decode b_RangeTellerModel_pop 34 = .ok (.iaload, 1) := by decide +kernel
theorem d_RangeTellerModel_pop_35 : decode b_RangeTellerModel_pop 35 = .ok (.ireturn, 1) := by decide +kernel
theorem d_RangeTellerModel_push_0 : decode b_RangeTellerModel_push 0 = .ok (.aload_n 0, 1) := by decide +kernel
theorem d_RangeTellerModel_push_1 : decode b_RangeTellerModel_push 1 = .ok (.getfield 75, 3) := by decide +kernel
theorem d_RangeTellerModel_push_4 : decode b_RangeTellerModel_push 4 = .ok (.bipush 10, 2) := by decide +kernel
theorem d_RangeTellerModel_push_6 : decode b_RangeTellerModel_push 6 = .ok (.aload_n 0, 1) := by decide +kernel
theorem d_RangeTellerModel_push_7 : decode b_RangeTellerModel_push 7 = .ok (.getfield 242, 3) := by decide +kernel
theorem d_RangeTellerModel_push_10 : decode b_RangeTellerModel_push 10 = .ok (.imul, 1) := by decide +kernel
theorem d_RangeTellerModel_push_11 : decode b_RangeTellerModel_push 11 = .ok (.aload_n 0, 1) := by decide +kernel
theorem d_RangeTellerModel_push_12 : decode b_RangeTellerModel_push 12 = .ok (.getfield 81, 3) := by decide +kernel
theorem d_RangeTellerModel_push_15 : decode b_RangeTellerModel_push 15 = .ok (.aload_n 0, 1) := by decide +kernel
theorem d_RangeTellerModel_push_16 : decode b_RangeTellerModel_push 16 = .ok (.getfield 242, 3) := by decide +kernel
theorem d_RangeTellerModel_push_19 : decode b_RangeTellerModel_push 19 = .ok (.iaload, 1) := by decide +kernel
theorem d_RangeTellerModel_push_20 : decode b_RangeTellerModel_push 20 = .ok (.iadd, 1) := by decide +kernel
theorem d_RangeTellerModel_push_21 : decode b_RangeTellerModel_push 21 = .ok (.iload_n 1, 1) := by decide +kernel
theorem d_RangeTellerModel_push_22 : decode b_RangeTellerModel_push 22 = .ok (.bipush 63, 2) := by decide +kernel
theorem d_RangeTellerModel_push_24 : decode b_RangeTellerModel_push 24 = .ok (.iand, 1) := by decide +kernel
theorem d_RangeTellerModel_push_25 : decode b_RangeTellerModel_push 25 = .ok (.iastore, 1) := by decide +kernel
theorem d_RangeTellerModel_push_26 : decode b_RangeTellerModel_push 26 = .ok (.aload_n 0, 1) := by decide +kernel
theorem d_RangeTellerModel_push_27 : decode b_RangeTellerModel_push 27 = .ok (.getfield 81, 3) := by decide +kernel
theorem d_RangeTellerModel_push_30 : decode b_RangeTellerModel_push 30 = .ok (.aload_n 0, 1) := by decide +kernel
theorem d_RangeTellerModel_push_31 : decode b_RangeTellerModel_push 31 = .ok (.getfield 242, 3) := by decide +kernel
theorem d_RangeTellerModel_push_34 : decode b_RangeTellerModel_push 34 = .ok (.dup2, 1) := by decide +kernel
theorem d_RangeTellerModel_push_35 : decode b_RangeTellerModel_push 35 = .ok (.iaload, 1) := by decide +kernel
theorem d_RangeTellerModel_push_36 : decode b_RangeTellerModel_push 36 = .ok (.iconst 1, 1) := by decide +kernel
theorem d_RangeTellerModel_push_37 : decode b_RangeTellerModel_push 37 = .ok (.iadd, 1) := by decide +kernel
theorem d_RangeTellerModel_push_38 : decode b_RangeTellerModel_push 38 = .ok (.iastore, 1) := by decide +kernel
theorem d_RangeTellerModel_push_39 : decode b_RangeTellerModel_push 39 = .ok (.return_, 1) := by decide +kernel
theorem d_RangeTellerModel_giveBack_25 : decode b_RangeTellerModel_giveBack 25 = .ok (.istore_n 3, 1) := by decide +kernel
theorem d_RangeTellerModel_giveBack_26 : decode b_RangeTellerModel_giveBack 26 = .ok (.aload_n 0, 1) := by decide +kernel
theorem d_RangeTellerModel_giveBack_27 : decode b_RangeTellerModel_giveBack 27 = .ok (.getfield 242, 3) := by decide +kernel
theorem d_RangeTellerModel_giveBack_30 : decode b_RangeTellerModel_giveBack 30 = .ok (.ifCond .ne 20, 3) := by decide +kernel
theorem d_RangeTellerModel_giveBack_50 : decode b_RangeTellerModel_giveBack 50 = .ok (.aload_n 0, 1) := by decide +kernel
theorem d_RangeTellerModel_giveBack_51 : decode b_RangeTellerModel_giveBack 51 = .ok (.aload_n 0, 1) := by decide +kernel
theorem d_RangeTellerModel_giveBack_52 : decode b_RangeTellerModel_giveBack 52 = .ok (.getfield 72, 3) := by decide +kernel
theorem d_RangeTellerModel_giveBack_55 : decode b_RangeTellerModel_giveBack 55 = .ok (.aload_n 0, 1) := by decide +kernel
theorem d_RangeTellerModel_giveBack_56 : decode b_RangeTellerModel_giveBack 56 = .ok (.getfield 242, 3) := by decide +kernel
theorem d_RangeTellerModel_giveBack_59 : decode b_RangeTellerModel_giveBack 59 = .ok (.iaload, 1) := by decide +kernel
theorem d_RangeTellerModel_giveBack_60 : decode b_RangeTellerModel_giveBack 60 = .ok (.iconst 1, 1) := by decide +kernel
theorem d_RangeTellerModel_giveBack_61 : decode b_RangeTellerModel_giveBack 61 = .ok (.iadd, 1) := by decide +kernel
theorem d_RangeTellerModel_giveBack_62 : decode b_RangeTellerModel_giveBack 62 = .ok (.putfield 251, 3) := by decide +kernel
theorem d_RangeTellerModel_giveBack_65 : decode b_RangeTellerModel_giveBack 65 = .ok (.aload_n 0, 1) := by decide +kernel
theorem d_RangeTellerModel_giveBack_66 : decode b_RangeTellerModel_giveBack 66 = .ok (.dup, 1) := by decide +kernel
theorem d_RangeTellerModel_giveBack_67 : decode b_RangeTellerModel_giveBack 67 = .ok (.getfield 242, 3) := by decide +kernel
theorem d_RangeTellerModel_giveBack_70 : decode b_RangeTellerModel_giveBack 70 = .ok (.iconst 1, 1) := by decide +kernel
theorem d_RangeTellerModel_giveBack_71 : decode b_RangeTellerModel_giveBack 71 = .ok (.isub, 1) := by decide +kernel
theorem d_RangeTellerModel_giveBack_72 : decode b_RangeTellerModel_giveBack 72 = .ok (.putfield 242, 3) := by decide +kernel
theorem d_RangeTellerModel_giveBack_75 : decode b_RangeTellerModel_giveBack 75 = .ok (.iload_n 2, 1) := by decide +kernel
theorem d_RangeTellerModel_giveBack_76 : decode b_RangeTellerModel_giveBack 76 = .ok (.iconst 1, 1) := by decide +kernel
theorem d_RangeTellerModel_giveBack_77 : decode b_RangeTellerModel_giveBack 77 = .ok (.if_icmp .ne 8, 3) := by decide +kernel
theorem d_RangeTellerModel_giveBack_85 : decode b_RangeTellerModel_giveBack 85 = .ok (.iconst 1, 1) := by decide +kernel
theorem d_RangeTellerModel_giveBack_86 : decode b_RangeTellerModel_giveBack 86 = .ok (.ireturn, 1) := by decide +kernel
theorem d_RangeTellerModel_giveBack_80 : decode b_RangeTellerModel_giveBack 80 = .ok (.aload_n 0, 1) := by decide +kernel
theorem d_RangeTellerModel_giveBack_81 : decode b_RangeTellerModel_giveBack 81 = .ok (.iload_n 3, 1) := by decide +kernel
theorem d_RangeTellerModel_giveBack_82 : decode b_RangeTellerModel_giveBack 82 = .ok (.invokevirtual 254, 3) := by decide +kernel
theorem d_RangeTellerModel_giveBack_33 : decode b_RangeTellerModel_giveBack 33 = .ok (.aload_n 0, 1) := by decide +kernel
theorem d_RangeTellerModel_giveBack_34 : decode b_RangeTellerModel_giveBack 34 = .ok (.iload_n 2, 1) := by decide +kernel
theorem d_RangeTellerModel_giveBack_35 : decode b_RangeTellerModel_giveBack 35 = .ok (.iconst 1, 1) := by decide +kernel
theorem d_RangeTellerModel_giveBack_36 : decode b_RangeTellerModel_giveBack 36 = .ok (.if_icmp .ne 7, 3) := by decide +kernel
theorem d_RangeTellerModel_giveBack_43 : decode b_RangeTellerModel_giveBack 43 = .ok (.bipush (-3), 2) := by decide +kernel
theorem d_RangeTellerModel_giveBack_45 : decode b_RangeTellerModel_giveBack 45 = .ok (.putfield 248, 3) := by decide +kernel
theorem d_RangeTellerModel_giveBack_48 : decode b_RangeTellerModel_giveBack 48 = .ok (.iconst 0, 1) := by decide +kernel
theorem d_RangeTellerModel_giveBack_49 : decode b_RangeTellerModel_giveBack 49 = .ok (.ireturn, 1) := by decide +kernel
theorem d_RangeTellerModel_giveBack_39 : decode b_RangeTellerModel_giveBack 39 = .ok (.iload_n 3, 1) := by decide +kernel
theorem d_RangeTellerModel_giveBack_40 : decode b_RangeTellerModel_giveBack 40 = .ok (.goto 5, 3) := by decide +kernel
theorem d_RangeTellerModel_giveBack_0 : decode b_RangeTellerModel_giveBack 0 = .ok (.aload_n 0, 1) := by decide +kernel
theorem d_RangeTellerModel_giveBack_1 : decode b_RangeTellerModel_giveBack 1 = .ok (.getfield 50, 3) := by decide +kernel
theorem d_RangeTellerModel_giveBack_4 : decode b_RangeTellerModel_giveBack 4 = .ok (.aload_n 0, 1) := by decide +kernel
theorem d_RangeTellerModel_giveBack_5 : decode b_RangeTellerModel_giveBack 5 = .ok (.getfield 23, 3) := by decide +kernel
theorem d_RangeTellerModel_giveBack_8 : decode b_RangeTellerModel_giveBack 8 = .ok (.iload_n 1, 1) := by decide +kernel
theorem d_RangeTellerModel_giveBack_9 : decode b_RangeTellerModel_giveBack 9 = .ok (.iaload, 1) := by decide +kernel
theorem d_RangeTellerModel_giveBack_10 : decode b_RangeTellerModel_giveBack 10 = .ok (.iaload, 1) := by decide +kernel
theorem d_RangeTellerModel_giveBack_11 : decode b_RangeTellerModel_giveBack 11 = .ok (.istore_n 2, 1) := by decide +kernel
theorem d_RangeTellerModel_giveBack_12 : decode b_RangeTellerModel_giveBack 12 = .ok (.iload_n 2, 1) := by decide +kernel
theorem d_RangeTellerModel_giveBack_13 : decode b_RangeTellerModel_giveBack 13 = .ok (.iconst 1, 1) := by decide +kernel
theorem d_RangeTellerModel_giveBack_14 : decode b_RangeTellerModel_giveBack 14 = .ok (.if_icmp .ne 10, 3) := by decide +kernel
theorem d_RangeTellerModel_giveBack_24 : decode b_RangeTellerModel_giveBack 24 = .ok (.iconst 0, 1) := by decide +kernel
theorem d_RangeTellerModel_giveBack_17 : decode b_RangeTellerModel_giveBack 17 = .ok (.aload_n 0, 1) := by decide +kernel
theorem d_RangeTellerModel_giveBack_18 : decode b_RangeTellerModel_giveBack 18 = .ok (.invokevirtual 245, 3) := by decide +kernel
theorem d_RangeTellerModel_giveBack_21 : decode b_RangeTellerModel_giveBack 21 = .ok (.goto 4, 3) := by decide +kernel
theorem d_RangeTellerModel_branch_61 : decode b_RangeTellerModel_branch 61 = .ok (.aload_n 0, 1) := by decide +kernel
theorem d_RangeTellerModel_branch_62 : decode b_RangeTellerModel_branch 62 = .ok (.aload_n 0, 1) := by decide +kernel
theorem d_RangeTellerModel_branch_63 : decode b_RangeTellerModel_branch 63 = .ok (.getfield 17, 3) := by decide +kernel
theorem d_RangeTellerModel_branch_66 : decode b_RangeTellerModel_branch 66 = .ok (.aload_n 0, 1) := by decide +kernel
theorem d_RangeTellerModel_branch_67 : decode b_RangeTellerModel_branch 67 = .ok (.getfield 35, 3) := by decide +kernel
theorem d_RangeTellerModel_branch_70 : decode b_RangeTellerModel_branch 70 = .ok (.iload_n 1, 1) := by decide +kernel
theorem d_RangeTellerModel_branch_71 : decode b_RangeTellerModel_branch 71 = .ok (.iaload, 1) := by decide +kernel
theorem d_RangeTellerModel_branch_72 : decode b_RangeTellerModel_branch 72 = .ok (.iaload, 1) := by decide +kernel
theorem d_RangeTellerModel_branch_73 : decode b_RangeTellerModel_branch 73 = .ok (.iconst 2, 1) := by decide +kernel
theorem d_RangeTellerModel_branch_74 : decode b_RangeTellerModel_branch 74 = .ok (.if_icmp .ne 14, 3) := by decide +kernel
theorem d_RangeTellerModel_branch_88 : decode b_RangeTellerModel_branch 88 = .ok (.aload_n 0, 1) := by decide +kernel
theorem d_RangeTellerModel_branch_89 : decode b_RangeTellerModel_branch 89 = .ok (.getfield 26, 3) := by decide +kernel
theorem d_RangeTellerModel_branch_92 : decode b_RangeTellerModel_branch 92 = .ok (.aload_n 0, 1) := by decide +kernel
theorem d_RangeTellerModel_branch_93 : decode b_RangeTellerModel_branch 93 = .ok (.getfield 35, 3) := by decide +kernel
theorem d_RangeTellerModel_branch_96 : decode b_RangeTellerModel_branch 96 = .ok (.iload_n 1, 1) := by decide +kernel
theorem d_RangeTellerModel_branch_97 : decode b_RangeTellerModel_branch 97 = .ok (.iaload, 1) := by decide +kernel
theorem d_RangeTellerModel_branch_98 : decode b_RangeTellerModel_branch 98 = .ok (.iaload, 1) := by decide +kernel
theorem d_RangeTellerModel_branch_99 : decode b_RangeTellerModel_branch 99 = .ok (.iconst 1, 1) := by decide +kernel
theorem d_RangeTellerModel_branch_100 : decode b_RangeTellerModel_branch 100 = .ok (.iadd, 1) := by decide +kernel
theorem d_RangeTellerModel_branch_101 : decode b_RangeTellerModel_branch 101 = .ok (.putfield 251, 3) := by decide +kernel
theorem d_RangeTellerModel_branch_104 : decode b_RangeTellerModel_branch 104 = .ok (.iconst 1, 1) := by decide +kernel
theorem d_RangeTellerModel_branch_105 : decode b_RangeTellerModel_branch 105 = .ok (.ireturn, 1) := by decide +kernel
theorem d_RangeTellerModel_branch_77 : decode b_RangeTellerModel_branch 77 = .ok (.aload_n 0, 1) := by decide +kernel
theorem d_RangeTellerModel_branch_78 : decode b_RangeTellerModel_branch 78 = .ok (.getfield 35, 3) := by decide +kernel
theorem d_RangeTellerModel_branch_81 : decode b_RangeTellerModel_branch 81 = .ok (.iload_n 1, 1) := by decide +kernel
theorem d_RangeTellerModel_branch_82 : decode b_RangeTellerModel_branch 82 = .ok (.iaload, 1) := by decide +kernel
theorem d_RangeTellerModel_branch_83 : decode b_RangeTellerModel_branch 83 = .ok (.iconst 1, 1) := by decide +kernel
theorem d_RangeTellerModel_branch_84 : decode b_RangeTellerModel_branch 84 = .ok (.iadd, 1) := by decide +kernel
theorem d_RangeTellerModel_branch_85 : decode b_RangeTellerModel_branch 85 = .ok (.goto 16, 3) := by decide +kernel
theorem d_RangeTellerModel_branch_35 : decode b_RangeTellerModel_branch 35 = .ok (.istore_n 3, 1) := by decide +kernel
theorem d_RangeTellerModel_branch_36 : decode b_RangeTellerModel_branch 36 = .ok (.aload_n 0, 1) := by decide +kernel
theorem d_RangeTellerModel_branch_37 : decode b_RangeTellerModel_branch 37 = .ok (.getfield 81, 3) := by decide +kernel
theorem d_RangeTellerModel_branch_40 : decode b_RangeTellerModel_branch 40 = .ok (.aload_n 0, 1) := by decide +kernel
theorem d_RangeTellerModel_branch_41 : decode b_RangeTellerModel_branch 41 = .ok (.getfield 242, 3) := by decide +kernel
theorem d_RangeTellerModel_branch_44 : decode b_RangeTellerModel_branch 44 = .ok (.aload_n 0, 1) := by decide +kernel
theorem d_RangeTellerModel_branch_45 : decode b_RangeTellerModel_branch 45 = .ok (.getfield 38, 3) := by decide +kernel
theorem d_RangeTellerModel_branch_48 : decode b_RangeTellerModel_branch 48 = .ok (.iload_n 1, 1) := by decide +kernel
theorem d_RangeTellerModel_branch_49 : decode b_RangeTellerModel_branch 49 = .ok (.iaload, 1) := by decide +kernel
theorem d_RangeTellerModel_branch_50 : decode b_RangeTellerModel_branch 50 = .ok (.iastore, 1) := by decide +kernel
theorem d_RangeTellerModel_branch_51 : decode b_RangeTellerModel_branch 51 = .ok (.iload_n 2, 1) := by decide +kernel
theorem d_RangeTellerModel_branch_52 : decode b_RangeTellerModel_branch 52 = .ok (.iconst 1, 1) := by decide +kernel
theorem d_RangeTellerModel_branch_53 : decode b_RangeTellerModel_branch 53 = .ok (.if_icmp .ne 8, 3) := by decide +kernel
theorem d_RangeTellerModel_branch_56 : decode b_RangeTellerModel_branch 56 = .ok (.aload_n 0, 1) := by decide +kernel
theorem d_RangeTellerModel_branch_57 : decode b_RangeTellerModel_branch 57 = .ok (.iload_n 3, 1) := by decide +kernel
theorem d_RangeTellerModel_branch_58 : decode b_RangeTellerModel_branch 58 = .ok (.invokevirtual 254, 3) := by decide +kernel
theorem d_RangeTellerModel_branch_0 : decode b_RangeTellerModel_branch 0 = .ok (.aload_n 0, 1) := by decide +kernel
theorem d_RangeTellerModel_branch_1 : decode b_RangeTellerModel_branch 1 = .ok (.getfield 35, 3) := by decide +kernel
theorem d_RangeTellerModel_branch_4 : decode b_RangeTellerModel_branch 4 = .ok (.iload_n 1, 1) := by decide +kernel
theorem d_RangeTellerModel_branch_5 : decode b_RangeTellerModel_branch 5 = .ok (.iaload, 1) := by decide +kernel
theorem d_RangeTellerModel_branch_6 : decode b_RangeTellerModel_branch 6 = .ok (.ifCond .ge 9, 3) := by decide +kernel
theorem d_RangeTellerModel_branch_15 : decode b_RangeTellerModel_branch 15 = .ok (.aload_n 0, 1) := by decide +kernel
theorem d_RangeTellerModel_branch_16 : decode b_RangeTellerModel_branch 16 = .ok (.getfield 41, 3) := by decide +kernel
theorem d_RangeTellerModel_branch_19 : decode b_RangeTellerModel_branch 19 = .ok (.iload_n 1, 1) := by decide +kernel
theorem d_RangeTellerModel_branch_20 : decode b_RangeTellerModel_branch 20 = .ok (.iaload, 1) := by decide +kernel
theorem d_RangeTellerModel_branch_21 : decode b_RangeTellerModel_branch 21 = .ok (.istore_n 2, 1) := by decide +kernel
theorem d_RangeTellerModel_branch_22 : decode b_RangeTellerModel_branch 22 = .ok (.iload_n 2, 1) := by decide +kernel
theorem d_RangeTellerModel_branch_23 : decode b_RangeTellerModel_branch 23 = .ok (.iconst 1, 1) := by decide +kernel
theorem d_RangeTellerModel_branch_24 : decode b_RangeTellerModel_branch 24 = .ok (.if_icmp .ne 10, 3) := by decide +kernel
theorem d_RangeTellerModel_branch_34 : decode b_RangeTellerModel_branch 34 = .ok (.iconst 0, 1) := by decide +kernel
theorem d_RangeTellerModel_branch_27 : decode b_RangeTellerModel_branch 27 = .ok (.aload_n 0, 1) := by decide +kernel
theorem d_RangeTellerModel_branch_28 : decode b_RangeTellerModel_branch 28 = .ok (.invokevirtual 245, 3) := by decide +kernel
theorem d_RangeTellerModel_branch_31 : decode b_RangeTellerModel_branch 31 = .ok (.goto 4, 3) := by decide +kernel
theorem d_RangeTellerModel_branch_9 : decode b_RangeTellerModel_branch 9 = .ok (.aload_n 0, 1) := by decide +kernel
theorem d_RangeTellerModel_branch_10 : decode b_RangeTellerModel_branch 10 = .ok (.iload_n 1, 1) := by decide +kernel
theorem d_RangeTellerModel_branch_11 : decode b_RangeTellerModel_branch 11 = .ok (.invokevirtual 257, 3) := by decide +kernel
theorem d_RangeTellerModel_branch_14 : decode b_RangeTellerModel_branch 14 = .ok (.ireturn, 1) := by decide +kernel
theorem d_RangeTellerModel_enter_55 : decode b_RangeTellerModel_enter 55 = .ok (.iload 5, 2) := by decide +kernel
theorem d_RangeTellerModel_enter_57 : decode b_RangeTellerModel_enter 57 = .ok (.ifCond .lt 23, 3) := by decide +kernel
theorem d_RangeTellerModel_enter_80 : decode b_RangeTellerModel_enter 80 = .ok (.aload_n 0, 1) := by decide +kernel
theorem d_RangeTellerModel_enter_81 : decode b_RangeTellerModel_enter 81 = .ok (.dup, 1) := by decide +kernel
theorem d_RangeTellerModel_enter_82 : decode b_RangeTellerModel_enter 82 = .ok (.getfield 242, 3) := by decide +kernel
theorem d_RangeTellerModel_enter_85 : decode b_RangeTellerModel_enter 85 = .ok (.iconst 1, 1) := by decide +kernel
theorem d_RangeTellerModel_enter_86 : decode b_RangeTellerModel_enter 86 = .ok (.iadd, 1) := by decide +kernel
theorem d_RangeTellerModel_enter_87 : decode b_RangeTellerModel_enter 87 = .ok (.putfield 242, 3) := by decide +kernel
theorem d_RangeTellerModel_enter_90 : decode b_RangeTellerModel_enter 90 = .ok (.aload_n 0, 1) := by decide +kernel
theorem d_RangeTellerModel_enter_91 : decode b_RangeTellerModel_enter 91 = .ok (.getfield 72, 3) := by decide +kernel
theorem d_RangeTellerModel_enter_94 : decode b_RangeTellerModel_enter 94 = .ok (.aload_n 0, 1) := by decide +kernel
theorem d_RangeTellerModel_enter_95 : decode b_RangeTellerModel_enter 95 = .ok (.getfield 242, 3) := by decide +kernel
theorem d_RangeTellerModel_enter_98 : decode b_RangeTellerModel_enter 98 = .ok (.iload_n 1, 1) := by decide +kernel
theorem d_RangeTellerModel_enter_99 : decode b_RangeTellerModel_enter 99 = .ok (.iastore, 1) := by decide +kernel
theorem d_RangeTellerModel_enter_100 : decode b_RangeTellerModel_enter 100 = .ok (.aload_n 0, 1) := by decide +kernel
theorem d_RangeTellerModel_enter_101 : decode b_RangeTellerModel_enter 101 = .ok (.getfield 81, 3) := by decide +kernel
theorem d_RangeTellerModel_enter_104 : decode b_RangeTellerModel_enter 104 = .ok (.aload_n 0, 1) := by decide +kernel
theorem d_RangeTellerModel_enter_105 : decode b_RangeTellerModel_enter 105 = .ok (.getfield 242, 3) := by decide +kernel
theorem d_RangeTellerModel_enter_108 : decode b_RangeTellerModel_enter 108 = .ok (.iconst 0, 1) := by decide +kernel
theorem d_RangeTellerModel_enter_109 : decode b_RangeTellerModel_enter 109 = .ok (.iastore, 1) := by decide +kernel
theorem d_RangeTellerModel_enter_110 : decode b_RangeTellerModel_enter 110 = .ok (.aload_n 0, 1) := by decide +kernel
theorem d_RangeTellerModel_enter_111 : decode b_RangeTellerModel_enter 111 = .ok (.aload_n 0, 1) := by decide +kernel
theorem d_RangeTellerModel_enter_112 : decode b_RangeTellerModel_enter 112 = .ok (.getfield 53, 3) := by decide +kernel
theorem d_RangeTellerModel_enter_115 : decode b_RangeTellerModel_enter 115 = .ok (.iload_n 2, 1) := by decide +kernel
theorem d_RangeTellerModel_enter_116 : decode b_RangeTellerModel_enter 116 = .ok (.iaload, 1) := by decide +kernel
theorem d_RangeTellerModel_enter_117 : decode b_RangeTellerModel_enter 117 = .ok (.putfield 251, 3) := by decide +kernel
theorem d_RangeTellerModel_enter_120 : decode b_RangeTellerModel_enter 120 = .ok (.return_, 1) := by decide +kernel
theorem d_RangeTellerModel_enter_60 : decode b_RangeTellerModel_enter 60 = .ok (.aload_n 0, 1) := by decide +kernel
theorem d_RangeTellerModel_enter_61 : decode b_RangeTellerModel_enter 61 = .ok (.getfield 78, 3) := by decide +kernel
theorem d_RangeTellerModel_enter_64 : decode b_RangeTellerModel_enter 64 = .ok (.iload 4, 2) := by decide +kernel
theorem d_RangeTellerModel_enter_66 : decode b_RangeTellerModel_enter 66 = .ok (.iload 5, 2) := by decide +kernel
theorem d_RangeTellerModel_enter_68 : decode b_RangeTellerModel_enter 68 = .ok (.iadd, 1) := by decide +kernel
theorem d_RangeTellerModel_enter_69 : decode b_RangeTellerModel_enter 69 = .ok (.aload_n 0, 1) := by decide +kernel
theorem d_RangeTellerModel_enter_70 : decode b_RangeTellerModel_enter 70 = .ok (.invokevirtual 245, 3) := by decide +kernel
theorem d_RangeTellerModel_enter_73 : decode b_RangeTellerModel_enter 73 = .ok (.iastore, 1) := by decide +kernel
theorem d_RangeTellerModel_enter_74 : decode b_RangeTellerModel_enter 74 = .ok (.iinc 5 (-1), 3) := by decide +kernel
theorem d_RangeTellerModel_enter_77 : decode b_RangeTellerModel_enter 77 = .ok (.goto (-22), 3) := by decide +kernel
theorem d_RangeTellerModel_enter_27 : decode b_RangeTellerModel_enter 27 = .ok (.iload 5, 2) := by decide +kernel
theorem d_RangeTellerModel_enter_29 : decode b_RangeTellerModel_enter 29 = .ok (.iconst 4, 1) := by decide +kernel
theorem d_RangeTellerModel_enter_30 : decode b_RangeTellerModel_enter 30 = .ok (.if_icmp .ge 20, 3) := by decide +kernel
theorem d_RangeTellerModel_enter_50 : decode b_RangeTellerModel_enter 50 = .ok (.iload_n 3, 1) := by decide +kernel
theorem d_RangeTellerModel_enter_51 : decode b_RangeTellerModel_enter 51 = .ok (.iconst 1, 1) := by decide +kernel
theorem d_RangeTellerModel_enter_52 : decode b_RangeTellerModel_enter 52 = .ok (.isub, 1) := by decide +kernel
theorem d_RangeTellerModel_enter_53 : decode b_RangeTellerModel_enter 53 = .ok (.istore 5, 2) := by decide +kernel
theorem d_RangeTellerModel_enter_33 : decode b_RangeTellerModel_enter 33 = .ok (.aload_n 0, 1) := by decide +kernel
theorem d_RangeTellerModel_enter_34 : decode b_RangeTellerModel_enter 34 = .ok (.getfield 78, 3) := by decide +kernel
theorem d_RangeTellerModel_enter_37 : decode b_RangeTellerModel_enter 37 = .ok (.iload 4, 2) := by decide +kernel
theorem d_RangeTellerModel_enter_39 : decode b_RangeTellerModel_enter 39 = .ok (.iload 5, 2) := by decide +kernel
theorem d_RangeTellerModel_enter_41 : decode b_RangeTellerModel_enter 41 = .ok (.iadd, 1) := by decide +kernel
theorem d_RangeTellerModel_enter_42 : decode b_RangeTellerModel_enter 42 = .ok (.iconst 0, 1) := by decide +kernel
theorem d_RangeTellerModel_enter_43 : decode b_RangeTellerModel_enter 43 = .ok (.iastore, 1) := by decide +kernel
theorem d_RangeTellerModel_enter_44 : decode b_RangeTellerModel_enter 44 = .ok (.iinc 5 1, 3) := by decide +kernel
theorem d_RangeTellerModel_enter_47 : decode b_RangeTellerModel_enter 47 = .ok (.goto (-20), 3) := by decide +kernel
theorem d_RangeTellerModel_enter_0 : decode b_RangeTellerModel_enter 0 = .ok (.aload_n 0, 1) := by decide +kernel
theorem d_RangeTellerModel_enter_1 : decode b_RangeTellerModel_enter 1 = .ok (.getfield 20, 3) := by decide +kernel
theorem d_RangeTellerModel_enter_4 : decode b_RangeTellerModel_enter 4 = .ok (.iload_n 1, 1) := by decide +kernel
theorem d_RangeTellerModel_enter_5 : decode b_RangeTellerModel_enter 5 = .ok (.iaload, 1) := by decide +kernel
theorem d_RangeTellerModel_enter_6 : decode b_RangeTellerModel_enter 6 = .ok (.istore_n 2, 1) := by decide +kernel
theorem d_RangeTellerModel_enter_7 : decode b_RangeTellerModel_enter 7 = .ok (.aload_n 0, 1) := by decide +kernel
theorem d_RangeTellerModel_enter_8 : decode b_RangeTellerModel_enter 8 = .ok (.getfield 44, 3) := by decide +kernel
theorem d_RangeTellerModel_enter_11 : decode b_RangeTellerModel_enter 11 = .ok (.iload_n 2, 1) := by decide +kernel
theorem d_RangeTellerModel_enter_12 : decode b_RangeTellerModel_enter 12 = .ok (.iaload, 1) := by decide +kernel
theorem d_RangeTellerModel_enter_13 : decode b_RangeTellerModel_enter 13 = .ok (.istore_n 3, 1) := by decide +kernel
theorem d_RangeTellerModel_enter_14 : decode b_RangeTellerModel_enter 14 = .ok (.iconst 4, 1) := by decide +kernel
theorem d_RangeTellerModel_enter_15 : decode b_RangeTellerModel_enter 15 = .ok (.aload_n 0, 1) := by decide +kernel
theorem d_RangeTellerModel_enter_16 : decode b_RangeTellerModel_enter 16 = .ok (.getfield 242, 3) := by decide +kernel
theorem d_RangeTellerModel_enter_19 : decode b_RangeTellerModel_enter 19 = .ok (.iconst 1, 1) := by decide +kernel
theorem d_RangeTellerModel_enter_20 : decode b_RangeTellerModel_enter 20 = .ok (.iadd, 1) := by decide +kernel
theorem d_RangeTellerModel_enter_21 : decode b_RangeTellerModel_enter 21 = .ok (.imul, 1) := by decide +kernel
theorem d_RangeTellerModel_enter_22 : decode b_RangeTellerModel_enter 22 = .ok (.istore 4, 2) := by decide +kernel
theorem d_RangeTellerModel_enter_24 : decode b_RangeTellerModel_enter 24 = .ok (.iconst 0, 1) := by decide +kernel
theorem d_RangeTellerModel_enter_25 : decode b_RangeTellerModel_enter 25 = .ok (.istore 5, 2) := by decide +kernel
theorem d_RangeTellerModel_trap_108 : decode b_RangeTellerModel_trap 108 = .ok (.iload_n 3, 1) := by decide +kernel
theorem d_RangeTellerModel_trap_109 : decode b_RangeTellerModel_trap 109 = .ok (.bipush 9, 2) := by decide +kernel
theorem d_RangeTellerModel_trap_111 : decode b_RangeTellerModel_trap 111 = .ok (.if_icmp .ne 16, 3) := by decide +kernel
theorem d_RangeTellerModel_trap_127 : decode b_RangeTellerModel_trap 127 = .ok (.iconst 0, 1) := by decide +kernel
theorem d_RangeTellerModel_trap_128 : decode b_RangeTellerModel_trap 128 = .ok (.ireturn, 1) := by decide +kernel
theorem d_RangeTellerModel_trap_114 : decode b_RangeTellerModel_trap 114 = .ok (.aload_n 0, 1) := by decide +kernel
theorem d_RangeTellerModel_trap_115 : decode b_RangeTellerModel_trap 115 = .ok (.getfield 242, 3) := by decide +kernel
theorem d_RangeTellerModel_trap_118 : decode b_RangeTellerModel_trap 118 = .ok (.bipush 6, 2) := by decide +kernel
theorem d_RangeTellerModel_trap_120 : decode b_RangeTellerModel_trap 120 = .ok (.if_icmp .ne 7, 3) := by decide +kernel
theorem d_RangeTellerModel_trap_123 : decode b_RangeTellerModel_trap 123 = .ok (.iconst 4, 1) := by decide +kernel
theorem d_RangeTellerModel_trap_124 : decode b_RangeTellerModel_trap 124 = .ok (.goto 4, 3) := by decide +kernel
theorem d_RangeTellerModel_trap_97 : decode b_RangeTellerModel_trap 97 = .ok (.aload_n 0, 1) := by decide +kernel
theorem d_RangeTellerModel_trap_98 : decode b_RangeTellerModel_trap 98 = .ok (.getfield 75, 3) := by decide +kernel
theorem d_RangeTellerModel_trap_101 : decode b_RangeTellerModel_trap 101 = .ok (.iload_n 2, 1) := by decide +kernel
theorem d_RangeTellerModel_trap_102 : decode b_RangeTellerModel_trap 102 = .ok (.iaload, 1) := by decide +kernel
theorem d_RangeTellerModel_trap_103 : decode b_RangeTellerModel_trap 103 = .ok (.ifCond .ne 5, 3) := by decide +kernel
theorem d_RangeTellerModel_trap_106 : decode b_RangeTellerModel_trap 106 = .ok (.iconst 3, 1) := by decide +kernel
theorem d_RangeTellerModel_trap_107 : decode b_RangeTellerModel_trap 107 = .ok (.ireturn, 1) := by decide +kernel
theorem d_RangeTellerModel_trap_85 : decode b_RangeTellerModel_trap 85 = .ok (.iload_n 3, 1) := by decide +kernel
theorem d_RangeTellerModel_trap_86 : decode b_RangeTellerModel_trap 86 = .ok (.bipush 24, 2) := by decide +kernel
theorem d_RangeTellerModel_trap_88 : decode b_RangeTellerModel_trap 88 = .ok (.if_icmp .eq 9, 3) := by decide +kernel
theorem d_RangeTellerModel_trap_91 : decode b_RangeTellerModel_trap 91 = .ok (.iload_n 3, 1) := by decide +kernel
theorem d_RangeTellerModel_trap_92 : decode b_RangeTellerModel_trap 92 = .ok (.bipush 25, 2) := by decide +kernel
theorem d_RangeTellerModel_trap_94 : decode b_RangeTellerModel_trap 94 = .ok (.if_icmp .ne 14, 3) := by decide +kernel
theorem d_RangeTellerModel_trap_57 : decode b_RangeTellerModel_trap 57 = .ok (.iload_n 3, 1) := by decide +kernel
theorem d_RangeTellerModel_trap_58 : decode b_RangeTellerModel_trap 58 = .ok (.bipush 16, 2) := by decide +kernel
theorem d_RangeTellerModel_trap_60 : decode b_RangeTellerModel_trap 60 = .ok (.if_icmp .ne 25, 3) := by decide +kernel
theorem d_RangeTellerModel_trap_63 : decode b_RangeTellerModel_trap 63 = .ok (.aload_n 0, 1) := by decide +kernel
theorem d_RangeTellerModel_trap_64 : decode b_RangeTellerModel_trap 64 = .ok (.getfield 75, 3) := by decide +kernel
theorem d_RangeTellerModel_trap_67 : decode b_RangeTellerModel_trap 67 = .ok (.iload_n 2, 1) := by decide +kernel
theorem d_RangeTellerModel_trap_68 : decode b_RangeTellerModel_trap 68 = .ok (.iconst 1, 1) := by decide +kernel
theorem d_RangeTellerModel_trap_69 : decode b_RangeTellerModel_trap 69 = .ok (.isub, 1) := by decide +kernel
theorem d_RangeTellerModel_trap_70 : decode b_RangeTellerModel_trap 70 = .ok (.iaload, 1) := by decide +kernel
theorem d_RangeTellerModel_trap_71 : decode b_RangeTellerModel_trap 71 = .ok (.aload_n 0, 1) := by decide +kernel
theorem d_RangeTellerModel_trap_72 : decode b_RangeTellerModel_trap 72 = .ok (.getfield 20, 3) := by decide +kernel
theorem d_RangeTellerModel_trap_75 : decode b_RangeTellerModel_trap 75 = .ok (.iload_n 1, 1) := by decide +kernel
theorem d_RangeTellerModel_trap_76 : decode b_RangeTellerModel_trap 76 = .ok (.iaload, 1) := by decide +kernel
theorem d_RangeTellerModel_trap_77 : decode b_RangeTellerModel_trap 77 = .ok (.iadd, 1) := by decide +kernel
theorem d_RangeTellerModel_trap_78 : decode b_RangeTellerModel_trap 78 = .ok (.bipush 15, 2) := by decide +kernel
theorem d_RangeTellerModel_trap_80 : decode b_RangeTellerModel_trap 80 = .ok (.if_icmp .le 5, 3) := by decide +kernel
theorem d_RangeTellerModel_trap_83 : decode b_RangeTellerModel_trap 83 = .ok (.iconst 2, 1) := by decide +kernel
theorem d_RangeTellerModel_trap_84 : decode b_RangeTellerModel_trap 84 = .ok (.ireturn, 1) := by decide +kernel
theorem d_RangeTellerModel_trap_0 : decode b_RangeTellerModel_trap 0 = .ok (.bipush 10, 2) := by decide +kernel
theorem d_RangeTellerModel_trap_2 : decode b_RangeTellerModel_trap 2 = .ok (.aload_n 0, 1) := by decide +kernel
theorem d_RangeTellerModel_trap_3 : decode b_RangeTellerModel_trap 3 = .ok (.getfield 242, 3) := by decide +kernel
theorem d_RangeTellerModel_trap_6 : decode b_RangeTellerModel_trap 6 = .ok (.imul, 1) := by decide +kernel
theorem d_RangeTellerModel_trap_7 : decode b_RangeTellerModel_trap 7 = .ok (.aload_n 0, 1) := by decide +kernel
theorem d_RangeTellerModel_trap_8 : decode b_RangeTellerModel_trap 8 = .ok (.getfield 81, 3) := by decide +kernel
theorem d_RangeTellerModel_trap_11 : decode b_RangeTellerModel_trap 11 = .ok (.aload_n 0, 1) := by decide +kernel
theorem d_RangeTellerModel_trap_12 : decode b_RangeTellerModel_trap 12 = .ok (.getfield 242, 3) := by decide +kernel
theorem d_RangeTellerModel_trap_15 : decode b_RangeTellerModel_trap 15 = .ok (.iaload, 1) := by decide +kernel
theorem d_RangeTellerModel_trap_16 : decode b_RangeTellerModel_trap 16 = .ok (.iadd, 1) := by decide +kernel
theorem d_RangeTellerModel_trap_17 : decode b_RangeTellerModel_trap 17 = .ok (.iconst 1, 1) := by decide +kernel
theorem d_RangeTellerModel_trap_18 : decode b_RangeTellerModel_trap 18 = .ok (.isub, 1) := by decide +kernel
theorem d_RangeTellerModel_trap_19 : decode b_RangeTellerModel_trap 19 = .ok (.istore_n 2, 1) := by decide +kernel
theorem d_RangeTellerModel_trap_20 : decode b_RangeTellerModel_trap 20 = .ok (.aload_n 0, 1) := by decide +kernel
theorem d_RangeTellerModel_trap_21 : decode b_RangeTellerModel_trap 21 = .ok (.getfield 17, 3) := by decide +kernel
theorem d_RangeTellerModel_trap_24 : decode b_RangeTellerModel_trap 24 = .ok (.iload_n 1, 1) := by decide +kernel
theorem d_RangeTellerModel_trap_25 : decode b_RangeTellerModel_trap 25 = .ok (.iaload, 1) := by decide +kernel
theorem d_RangeTellerModel_trap_26 : decode b_RangeTellerModel_trap 26 = .ok (.istore_n 3, 1) := by decide +kernel
theorem d_RangeTellerModel_trap_27 : decode b_RangeTellerModel_trap 27 = .ok (.iload_n 3, 1) := by decide +kernel
theorem d_RangeTellerModel_trap_28 : decode b_RangeTellerModel_trap 28 = .ok (.ifCond .ne 5, 3) := by decide +kernel
theorem d_RangeTellerModel_trap_33 : decode b_RangeTellerModel_trap 33 = .ok (.iload_n 3, 1) := by decide +kernel
theorem d_RangeTellerModel_trap_34 : decode b_RangeTellerModel_trap 34 = .ok (.bipush 15, 2) := by decide +kernel
theorem d_RangeTellerModel_trap_36 : decode b_RangeTellerModel_trap 36 = .ok (.if_icmp .ne 21, 3) := by decide +kernel
theorem d_RangeTellerModel_trap_39 : decode b_RangeTellerModel_trap 39 = .ok (.aload_n 0, 1) := by decide +kernel
theorem d_RangeTellerModel_trap_40 : decode b_RangeTellerModel_trap 40 = .ok (.getfield 75, 3) := by decide +kernel
theorem d_RangeTellerModel_trap_43 : decode b_RangeTellerModel_trap 43 = .ok (.iload_n 2, 1) := by decide +kernel
theorem d_RangeTellerModel_trap_44 : decode b_RangeTellerModel_trap 44 = .ok (.iaload, 1) := by decide +kernel
theorem d_RangeTellerModel_trap_45 : decode b_RangeTellerModel_trap 45 = .ok (.aload_n 0, 1) := by decide +kernel
theorem d_RangeTellerModel_trap_46 : decode b_RangeTellerModel_trap 46 = .ok (.getfield 20, 3) := by decide +kernel
theorem d_RangeTellerModel_trap_49 : decode b_RangeTellerModel_trap 49 = .ok (.iload_n 1, 1) := by decide +kernel
theorem d_RangeTellerModel_trap_50 : decode b_RangeTellerModel_trap 50 = .ok (.iaload, 1) := by decide +kernel
theorem d_RangeTellerModel_trap_51 : decode b_RangeTellerModel_trap 51 = .ok (.iadd, 1) := by decide +kernel
theorem d_RangeTellerModel_trap_52 : decode b_RangeTellerModel_trap 52 = .ok (.bipush 15, 2) := by decide +kernel
theorem d_RangeTellerModel_trap_54 : decode b_RangeTellerModel_trap 54 = .ok (.if_icmp .gt 29, 3) := by decide +kernel
theorem d_RangeTellerModel_trap_31 : decode b_RangeTellerModel_trap 31 = .ok (.iconst 1, 1) := by decide +kernel
theorem d_RangeTellerModel_trap_32 : decode b_RangeTellerModel_trap 32 = .ok (.ireturn, 1) := by decide +kernel
theorem d_RangeTellerModel_flow_128 : decode b_RangeTellerModel_flow 128 = .ok (.aload_n 0, 1) := by decide +kernel
theorem d_RangeTellerModel_flow_129 : decode b_RangeTellerModel_flow 129 = .ok (.iload_n 1, 1) := by decide +kernel
theorem d_RangeTellerModel_flow_130 : decode b_RangeTellerModel_flow 130 = .ok (.invokevirtual 257, 3) := by decide +kernel
theorem d_RangeTellerModel_flow_133 : decode b_RangeTellerModel_flow 133 = .ok (.ifCond .eq 7, 3) := by decide +kernel
theorem d_RangeTellerModel_flow_140 : decode b_RangeTellerModel_flow 140 = .ok (.iconst 0, 1) := by decide +kernel
theorem d_RangeTellerModel_flow_141 : decode b_RangeTellerModel_flow 141 = .ok (.ireturn, 1) := by decide +kernel
theorem d_RangeTellerModel_flow_136 : decode b_RangeTellerModel_flow 136 = .ok (.iconst 1, 1) := by decide +kernel
theorem d_RangeTellerModel_flow_137 : decode b_RangeTellerModel_flow 137 = .ok (.goto 4, 3) := by decide +kernel
theorem d_RangeTellerModel_flow_80 : decode b_RangeTellerModel_flow 80 = .ok (.iconst 1, 1) := by decide +kernel
theorem d_RangeTellerModel_flow_81 : decode b_RangeTellerModel_flow 81 = .ok (.iadd, 1) := by decide +kernel
theorem d_RangeTellerModel_flow_82 : decode b_RangeTellerModel_flow 82 = .ok (.putfield 251, 3) := by decide +kernel
theorem d_RangeTellerModel_flow_85 : decode b_RangeTellerModel_flow 85 = .ok (.iconst 1, 1) := by decide +kernel
theorem d_RangeTellerModel_flow_86 : decode b_RangeTellerModel_flow 86 = .ok (.ireturn, 1) := by decide +kernel
theorem d_RangeTellerModel_flow_0 : decode b_RangeTellerModel_flow 0 = .ok (.aload_n 0, 1) := by decide +kernel
theorem d_RangeTellerModel_flow_1 : decode b_RangeTellerModel_flow 1 = .ok (.getfield 17, 3) := by decide +kernel
theorem d_RangeTellerModel_flow_4 : decode b_RangeTellerModel_flow 4 = .ok (.iload_n 1, 1) := by decide +kernel
theorem d_RangeTellerModel_flow_5 : decode b_RangeTellerModel_flow 5 = .ok (.iaload, 1) := by decide +kernel
theorem d_RangeTellerModel_flow_6 : decode b_RangeTellerModel_flow 6 = .ok (.tableswitch 176 3 9 #[42, 81, 95, 136, 142, 163, 169], 42) := by decide +kernel
theorem d_RangeTellerModel_flow_48 : decode b_RangeTellerModel_flow 48 = .ok (.aload_n 0, 1) := by decide +kernel
theorem d_RangeTellerModel_flow_49 : decode b_RangeTellerModel_flow 49 = .ok (.invokevirtual 245, 3) := by decide +kernel
theorem d_RangeTellerModel_flow_52 : decode b_RangeTellerModel_flow 52 = .ok (.ifCond .ne 33, 3) := by decide +kernel
theorem d_RangeTellerModel_flow_55 : decode b_RangeTellerModel_flow 55 = .ok (.aload_n 0, 1) := by decide +kernel
theorem d_RangeTellerModel_flow_56 : decode b_RangeTellerModel_flow 56 = .ok (.aload_n 0, 1) := by decide +kernel
theorem d_RangeTellerModel_flow_57 : decode b_RangeTellerModel_flow 57 = .ok (.getfield 29, 3) := by decide +kernel
theorem d_RangeTellerModel_flow_60 : decode b_RangeTellerModel_flow 60 = .ok (.iload_n 1, 1) := by decide +kernel
theorem d_RangeTellerModel_flow_61 : decode b_RangeTellerModel_flow 61 = .ok (.iaload, 1) := by decide +kernel
theorem d_RangeTellerModel_flow_62 : decode b_RangeTellerModel_flow 62 = .ok (.ifCond .lt 12, 3) := by decide +kernel
theorem d_RangeTellerModel_flow_74 : decode b_RangeTellerModel_flow 74 = .ok (.aload_n 0, 1) := by decide +kernel
theorem d_RangeTellerModel_flow_75 : decode b_RangeTellerModel_flow 75 = .ok (.getfield 26, 3) := by decide +kernel
theorem d_RangeTellerModel_flow_78 : decode b_RangeTellerModel_flow 78 = .ok (.iload_n 1, 1) := by decide +kernel
theorem d_RangeTellerModel_flow_79 : decode b_RangeTellerModel_flow 79 = .ok (.iaload, 1) := by decide +kernel
theorem d_RangeTellerModel_flow_65 : decode b_RangeTellerModel_flow 65 = .ok (.aload_n 0, 1) := by decide +kernel
theorem d_RangeTellerModel_flow_66 : decode b_RangeTellerModel_flow 66 = .ok (.getfield 29, 3) := by decide +kernel
theorem d_RangeTellerModel_flow_69 : decode b_RangeTellerModel_flow 69 = .ok (.iload_n 1, 1) := by decide +kernel
theorem d_RangeTellerModel_flow_70 : decode b_RangeTellerModel_flow 70 = .ok (.iaload, 1) := by decide +kernel
theorem d_RangeTellerModel_flow_71 : decode b_RangeTellerModel_flow 71 = .ok (.goto 9, 3) := by decide +kernel
theorem d_RangeTellerModel_flow_87 : decode b_RangeTellerModel_flow 87 = .ok (.aload_n 0, 1) := by decide +kernel
theorem d_RangeTellerModel_flow_88 : decode b_RangeTellerModel_flow 88 = .ok (.aload_n 0, 1) := by decide +kernel
theorem d_RangeTellerModel_flow_89 : decode b_RangeTellerModel_flow 89 = .ok (.getfield 26, 3) := by decide +kernel
theorem d_RangeTellerModel_flow_92 : decode b_RangeTellerModel_flow 92 = .ok (.iload_n 1, 1) := by decide +kernel
theorem d_RangeTellerModel_flow_93 : decode b_RangeTellerModel_flow 93 = .ok (.iaload, 1) := by decide +kernel
theorem d_RangeTellerModel_flow_94 : decode b_RangeTellerModel_flow 94 = .ok (.iconst 1, 1) := by decide +kernel
theorem d_RangeTellerModel_flow_95 : decode b_RangeTellerModel_flow 95 = .ok (.iadd, 1) := by decide +kernel
theorem d_RangeTellerModel_flow_96 : decode b_RangeTellerModel_flow 96 = .ok (.putfield 251, 3) := by decide +kernel
theorem d_RangeTellerModel_flow_99 : decode b_RangeTellerModel_flow 99 = .ok (.iconst 1, 1) := by decide +kernel
theorem d_RangeTellerModel_flow_100 : decode b_RangeTellerModel_flow 100 = .ok (.ireturn, 1) := by decide +kernel
theorem d_RangeTellerModel_flow_101 : decode b_RangeTellerModel_flow 101 = .ok (.iload_n 1, 1) := by decide +kernel
theorem d_RangeTellerModel_flow_102 : decode b_RangeTellerModel_flow 102 = .ok (.iconst 1, 1) := by decide +kernel
theorem d_RangeTellerModel_flow_103 : decode b_RangeTellerModel_flow 103 = .ok (.iadd, 1) := by decide +kernel
theorem d_RangeTellerModel_flow_104 : decode b_RangeTellerModel_flow 104 = .ok (.aload_n 0, 1) := by decide +kernel
theorem d_RangeTellerModel_flow_105 : decode b_RangeTellerModel_flow 105 = .ok (.getfield 171, 3) := by decide +kernel
theorem d_RangeTellerModel_flow_108 : decode b_RangeTellerModel_flow 108 = .ok (.if_icmp .ge 20, 3) := by decide +kernel
theorem d_RangeTellerModel_flow_111 : decode b_RangeTellerModel_flow 111 = .ok (.aload_n 0, 1) := by decide +kernel
theorem d_RangeTellerModel_flow_112 : decode b_RangeTellerModel_flow 112 = .ok (.getfield 23, 3) := by decide +kernel
theorem d_RangeTellerModel_flow_115 : decode b_RangeTellerModel_flow 115 = .ok (.iload_n 1, 1) := by decide +kernel
theorem d_RangeTellerModel_flow_116 : decode b_RangeTellerModel_flow 116 = .ok (.iconst 1, 1) := by decide +kernel
theorem d_RangeTellerModel_flow_117 : decode b_RangeTellerModel_flow 117 = .ok (.iadd, 1) := by decide +kernel
theorem d_RangeTellerModel_flow_118 : decode b_RangeTellerModel_flow 118 = .ok (.iaload, 1) := by decide +kernel
theorem d_RangeTellerModel_flow_119 : decode b_RangeTellerModel_flow 119 = .ok (.aload_n 0, 1) := by decide +kernel
theorem d_RangeTellerModel_flow_120 : decode b_RangeTellerModel_flow 120 = .ok (.getfield 23, 3) := by decide +kernel
theorem d_RangeTellerModel_flow_123 : decode b_RangeTellerModel_flow 123 = .ok (.iload_n 1, 1) := by decide +kernel
theorem d_RangeTellerModel_flow_124 : decode b_RangeTellerModel_flow 124 = .ok (.iaload, 1) := by decide +kernel
theorem d_RangeTellerModel_flow_125 : decode b_RangeTellerModel_flow 125 = .ok (.if_icmp .eq 11, 3) := by decide +kernel
theorem d_RangeTellerModel_flow_142 : decode b_RangeTellerModel_flow 142 = .ok (.aload_n 0, 1) := by decide +kernel
theorem d_RangeTellerModel_flow_143 : decode b_RangeTellerModel_flow 143 = .ok (.iload_n 1, 1) := by decide +kernel
theorem d_RangeTellerModel_flow_144 : decode b_RangeTellerModel_flow 144 = .ok (.invokevirtual 260, 3) := by decide +kernel
theorem d_RangeTellerModel_flow_147 : decode b_RangeTellerModel_flow 147 = .ok (.ireturn, 1) := by decide +kernel
theorem d_RangeTellerModel_flow_148 : decode b_RangeTellerModel_flow 148 = .ok (.aload_n 0, 1) := by decide +kernel
theorem d_RangeTellerModel_flow_149 : decode b_RangeTellerModel_flow 149 = .ok (.invokevirtual 245, 3) := by decide +kernel
theorem d_RangeTellerModel_flow_152 : decode b_RangeTellerModel_flow 152 = .ok (.ifCond .eq 11, 3) := by decide +kernel
theorem d_RangeTellerModel_flow_163 : decode b_RangeTellerModel_flow 163 = .ok (.iconst 1, 1) := by decide +kernel
theorem d_RangeTellerModel_flow_164 : decode b_RangeTellerModel_flow 164 = .ok (.goto 4, 3) := by decide +kernel
theorem d_RangeTellerModel_flow_168 : decode b_RangeTellerModel_flow 168 = .ok (.ireturn, 1) := by decide +kernel
theorem d_RangeTellerModel_flow_155 : decode b_RangeTellerModel_flow 155 = .ok (.aload_n 0, 1) := by decide +kernel
theorem d_RangeTellerModel_flow_156 : decode b_RangeTellerModel_flow 156 = .ok (.iload_n 1, 1) := by decide +kernel
theorem d_RangeTellerModel_flow_157 : decode b_RangeTellerModel_flow 157 = .ok (.invokevirtual 260, 3) := by decide +kernel
theorem d_RangeTellerModel_flow_160 : decode b_RangeTellerModel_flow 160 = .ok (.ifCond .eq 7, 3) := by decide +kernel
theorem d_RangeTellerModel_flow_167 : decode b_RangeTellerModel_flow 167 = .ok (.iconst 0, 1) := by decide +kernel
theorem d_RangeTellerModel_flow_169 : decode b_RangeTellerModel_flow 169 = .ok (.aload_n 0, 1) := by decide +kernel
theorem d_RangeTellerModel_flow_170 : decode b_RangeTellerModel_flow 170 = .ok (.iload_n 1, 1) := by decide +kernel
theorem d_RangeTellerModel_flow_171 : decode b_RangeTellerModel_flow 171 = .ok (.invokevirtual 257, 3) := by decide +kernel
theorem d_RangeTellerModel_flow_174 : decode b_RangeTellerModel_flow 174 = .ok (.ireturn, 1) := by decide +kernel
theorem d_RangeTellerModel_flow_175 : decode b_RangeTellerModel_flow 175 = .ok (.aload_n 0, 1) := by decide +kernel
theorem d_RangeTellerModel_flow_176 : decode b_RangeTellerModel_flow 176 = .ok (.iload_n 1, 1) := by decide +kernel
theorem d_RangeTellerModel_flow_177 : decode b_RangeTellerModel_flow 177 = .ok (.invokevirtual 263, 3) := by decide +kernel
theorem d_RangeTellerModel_flow_180 : decode b_RangeTellerModel_flow 180 = .ok (.iconst 1, 1) := by decide +kernel
theorem d_RangeTellerModel_flow_181 : decode b_RangeTellerModel_flow 181 = .ok (.ireturn, 1) := by decide +kernel
theorem d_RangeTellerModel_flow_182 : decode b_RangeTellerModel_flow 182 = .ok (.iconst 1, 1) := by decide +kernel
theorem d_RangeTellerModel_flow_183 : decode b_RangeTellerModel_flow 183 = .ok (.ireturn, 1) := by decide +kernel
theorem d_RangeTellerModel_act_147 : decode b_RangeTellerModel_act 147 = .ok (.aload_n 0, 1) := by decide +kernel
theorem d_RangeTellerModel_act_148 : decode b_RangeTellerModel_act 148 = .ok (.getfield 78, 3) := by decide +kernel
theorem d_RangeTellerModel_act_151 : decode b_RangeTellerModel_act 151 = .ok (.iload 5, 2) := by decide +kernel
theorem d_RangeTellerModel_act_153 : decode b_RangeTellerModel_act 153 = .ok (.iload 4, 2) := by decide +kernel
theorem d_RangeTellerModel_act_155 : decode b_RangeTellerModel_act 155 = .ok (.iadd, 1) := by decide +kernel
theorem d_RangeTellerModel_act_156 : decode b_RangeTellerModel_act 156 = .ok (.iload 6, 2) := by decide +kernel
theorem d_RangeTellerModel_act_158 : decode b_RangeTellerModel_act 158 = .ok (.iastore, 1) := by decide +kernel
theorem d_RangeTellerModel_act_159 : decode b_RangeTellerModel_act 159 = .ok (.iload_n 3, 1) := by decide +kernel
theorem d_RangeTellerModel_act_160 : decode b_RangeTellerModel_act 160 = .ok (.bipush 14, 2) := by decide +kernel
theorem d_RangeTellerModel_act_162 : decode b_RangeTellerModel_act 162 = .ok (.if_icmp .ne 140, 3) := by decide +kernel
theorem d_RangeTellerModel_act_302 : decode b_RangeTellerModel_act 302 = .ok (.return_, 1) := by decide +kernel
theorem d_RangeTellerModel_act_165 : decode b_RangeTellerModel_act 165 = .ok (.aload_n 0, 1) := by decide +kernel
theorem d_RangeTellerModel_act_166 : decode b_RangeTellerModel_act 166 = .ok (.iload 6, 2) := by decide +kernel
theorem d_RangeTellerModel_act_168 : decode b_RangeTellerModel_act 168 = .ok (.invokevirtual 254, 3) := by decide +kernel
theorem d_RangeTellerModel_act_171 : decode b_RangeTellerModel_act 171 = .ok (.goto 131, 3) := by decide +kernel
theorem d_RangeTellerModel_act_269 : decode b_RangeTellerModel_act 269 = .ok (.aload_n 0, 1) := by decide +kernel
theorem d_RangeTellerModel_act_270 : decode b_RangeTellerModel_act 270 = .ok (.dup, 1) := by decide +kernel
theorem d_RangeTellerModel_act_271 : decode b_RangeTellerModel_act 271 = .ok (.getfield 266, 3) := by decide +kernel
theorem d_RangeTellerModel_act_274 : decode b_RangeTellerModel_act 274 = .ok (.iconst 1, 1) := by decide +kernel
theorem d_RangeTellerModel_act_275 : decode b_RangeTellerModel_act 275 = .ok (.iadd, 1) := by decide +kernel
theorem d_RangeTellerModel_act_276 : decode b_RangeTellerModel_act 276 = .ok (.putfield 266, 3) := by decide +kernel
theorem d_RangeTellerModel_act_279 : decode b_RangeTellerModel_act 279 = .ok (.goto 23, 3) := by decide +kernel
theorem d_RangeTellerModel_act_237 : decode b_RangeTellerModel_act 237 = .ok (.invokevirtual 254, 3) := by decide +kernel
theorem d_RangeTellerModel_act_240 : decode b_RangeTellerModel_act 240 = .ok (.goto 62, 3) := by decide +kernel
theorem d_RangeTellerModel_act_129 : decode b_RangeTellerModel_act 129 = .ok (.invokevirtual 254, 3) := by decide +kernel
theorem d_RangeTellerModel_act_132 : decode b_RangeTellerModel_act 132 = .ok (.goto 170, 3) := by decide +kernel
theorem d_RangeTellerModel_act_86 : decode b_RangeTellerModel_act 86 = .ok (.invokevirtual 254, 3) := by decide +kernel
theorem d_RangeTellerModel_act_89 : decode b_RangeTellerModel_act 89 = .ok (.goto 213, 3) := by decide +kernel
theorem d_RangeTellerModel_act_0 : decode b_RangeTellerModel_act 0 = .ok (.aload_n 0, 1) := by decide +kernel
theorem d_RangeTellerModel_act_1 : decode b_RangeTellerModel_act 1 = .ok (.getfield 17, 3) := by decide +kernel
theorem d_RangeTellerModel_act_4 : decode b_RangeTellerModel_act 4 = .ok (.iload_n 1, 1) := by decide +kernel
theorem d_RangeTellerModel_act_5 : decode b_RangeTellerModel_act 5 = .ok (.iaload, 1) := by decide +kernel
theorem d_RangeTellerModel_act_6 : decode b_RangeTellerModel_act 6 = .ok (.istore_n 3, 1) := by decide +kernel
theorem d_RangeTellerModel_act_7 : decode b_RangeTellerModel_act 7 = .ok (.aload_n 0, 1) := by decide +kernel
theorem d_RangeTellerModel_act_8 : decode b_RangeTellerModel_act 8 = .ok (.getfield 20, 3) := by decide +kernel
theorem d_RangeTellerModel_act_11 : decode b_RangeTellerModel_act 11 = .ok (.iload_n 1, 1) := by decide +kernel
theorem d_RangeTellerModel_act_12 : decode b_RangeTellerModel_act 12 = .ok (.iaload, 1) := by decide +kernel
theorem d_RangeTellerModel_act_13 : decode b_RangeTellerModel_act 13 = .ok (.istore 4, 2) := by decide +kernel
theorem d_RangeTellerModel_act_15 : decode b_RangeTellerModel_act 15 = .ok (.iconst 4, 1) := by decide +kernel
theorem d_RangeTellerModel_act_16 : decode b_RangeTellerModel_act 16 = .ok (.aload_n 0, 1) := by decide +kernel
theorem d_RangeTellerModel_act_17 : decode b_RangeTellerModel_act 17 = .ok (.getfield 242, 3) := by decide +kernel
theorem d_RangeTellerModel_act_20 : decode b_RangeTellerModel_act 20 = .ok (.imul, 1) := by decide +kernel
theorem d_RangeTellerModel_act_21 : decode b_RangeTellerModel_act 21 = .ok (.istore 5, 2) := by decide +kernel
theorem d_RangeTellerModel_act_23 : decode b_RangeTellerModel_act 23 = .ok (.iload_n 3, 1) := by decide +kernel
theorem d_RangeTellerModel_act_24 : decode b_RangeTellerModel_act 24 = .ok (.bipush 12, 2) := by decide +kernel
theorem d_RangeTellerModel_act_26 : decode b_RangeTellerModel_act 26 = .ok (.if_icmp .ne 20, 3) := by decide +kernel
theorem d_RangeTellerModel_act_46 : decode b_RangeTellerModel_act 46 = .ok (.iload_n 3, 1) := by decide +kernel
theorem d_RangeTellerModel_act_47 : decode b_RangeTellerModel_act 47 = .ok (.bipush 17, 2) := by decide +kernel
theorem d_RangeTellerModel_act_49 : decode b_RangeTellerModel_act 49 = .ok (.if_icmp .ne 12, 3) := by decide +kernel
theorem d_RangeTellerModel_act_61 : decode b_RangeTellerModel_act 61 = .ok (.iload_n 3, 1) := by decide +kernel
theorem d_RangeTellerModel_act_62 : decode b_RangeTellerModel_act 62 = .ok (.bipush 27, 2) := by decide +kernel
theorem d_RangeTellerModel_act_64 : decode b_RangeTellerModel_act 64 = .ok (.if_icmp .ne 28, 3) := by decide +kernel
theorem d_RangeTellerModel_act_92 : decode b_RangeTellerModel_act 92 = .ok (.aload_n 0, 1) := by decide +kernel
theorem d_RangeTellerModel_act_93 : decode b_RangeTellerModel_act 93 = .ok (.invokevirtual 245, 3) := by decide +kernel
theorem d_RangeTellerModel_act_96 : decode b_RangeTellerModel_act 96 = .ok (.istore 6, 2) := by decide +kernel
theorem d_RangeTellerModel_act_98 : decode b_RangeTellerModel_act 98 = .ok (.iload_n 3, 1) := by decide +kernel
theorem d_RangeTellerModel_act_99 : decode b_RangeTellerModel_act 99 = .ok (.bipush 11, 2) := by decide +kernel
theorem d_RangeTellerModel_act_101 : decode b_RangeTellerModel_act 101 = .ok (.if_icmp .ne 34, 3) := by decide +kernel
theorem d_RangeTellerModel_act_135 : decode b_RangeTellerModel_act 135 = .ok (.iload_n 3, 1) := by decide +kernel
theorem d_RangeTellerModel_act_136 : decode b_RangeTellerModel_act 136 = .ok (.bipush 13, 2) := by decide +kernel
theorem d_RangeTellerModel_act_138 : decode b_RangeTellerModel_act 138 = .ok (.if_icmp .eq 9, 3) := by decide +kernel
theorem d_RangeTellerModel_act_141 : decode b_RangeTellerModel_act 141 = .ok (.iload_n 3, 1) := by decide +kernel
theorem d_RangeTellerModel_act_142 : decode b_RangeTellerModel_act 142 = .ok (.bipush 14, 2) := by decide +kernel
theorem d_RangeTellerModel_act_144 : decode b_RangeTellerModel_act 144 = .ok (.if_icmp .ne 30, 3) := by decide +kernel
theorem d_RangeTellerModel_act_174 : decode b_RangeTellerModel_act 174 = .ok (.iload_n 3, 1) := by decide +kernel
theorem d_RangeTellerModel_act_175 : decode b_RangeTellerModel_act 175 = .ok (.bipush 15, 2) := by decide +kernel
theorem d_RangeTellerModel_act_177 : decode b_RangeTellerModel_act 177 = .ok (.if_icmp .ne 20, 3) := by decide +kernel
theorem d_RangeTellerModel_act_197 : decode b_RangeTellerModel_act 197 = .ok (.iload_n 3, 1) := by decide +kernel
theorem d_RangeTellerModel_act_198 : decode b_RangeTellerModel_act 198 = .ok (.bipush 16, 2) := by decide +kernel
theorem d_RangeTellerModel_act_200 : decode b_RangeTellerModel_act 200 = .ok (.if_icmp .ne 20, 3) := by decide +kernel
theorem d_RangeTellerModel_act_220 : decode b_RangeTellerModel_act 220 = .ok (.iload_n 3, 1) := by decide +kernel
theorem d_RangeTellerModel_act_221 : decode b_RangeTellerModel_act 221 = .ok (.bipush 18, 2) := by decide +kernel
theorem d_RangeTellerModel_act_223 : decode b_RangeTellerModel_act 223 = .ok (.if_icmp .ne 20, 3) := by decide +kernel
theorem d_RangeTellerModel_act_243 : decode b_RangeTellerModel_act 243 = .ok (.iload_n 3, 1) := by decide +kernel
theorem d_RangeTellerModel_act_244 : decode b_RangeTellerModel_act 244 = .ok (.bipush 28, 2) := by decide +kernel
theorem d_RangeTellerModel_act_246 : decode b_RangeTellerModel_act 246 = .ok (.if_icmp .ne 36, 3) := by decide +kernel
theorem d_RangeTellerModel_act_282 : decode b_RangeTellerModel_act 282 = .ok (.iload_n 3, 1) := by decide +kernel
theorem d_RangeTellerModel_act_283 : decode b_RangeTellerModel_act 283 = .ok (.bipush 18, 2) := by decide +kernel
theorem d_RangeTellerModel_act_285 : decode b_RangeTellerModel_act 285 = .ok (.if_icmp .le 17, 3) := by decide +kernel
theorem d_RangeTellerModel_act_288 : decode b_RangeTellerModel_act 288 = .ok (.aload_n 0, 1) := by decide +kernel
theorem d_RangeTellerModel_act_289 : decode b_RangeTellerModel_act 289 = .ok (.iload_n 3, 1) := by decide +kernel
theorem d_RangeTellerModel_act_290 : decode b_RangeTellerModel_act 290 = .ok (.aload_n 0, 1) := by decide +kernel
theorem d_RangeTellerModel_act_291 : decode b_RangeTellerModel_act 291 = .ok (.invokevirtual 245, 3) := by decide +kernel
theorem d_RangeTellerModel_act_294 : decode b_RangeTellerModel_act 294 = .ok (.iload 6, 2) := by decide +kernel
theorem d_RangeTellerModel_act_296 : decode b_RangeTellerModel_act 296 = .ok (.invokestatic 269, 3) := by decide +kernel
theorem d_RangeTellerModel_act_299 : decode b_RangeTellerModel_act 299 = .ok (.invokevirtual 254, 3) := by decide +kernel
theorem d_RangeTellerModel_act_249 : decode b_RangeTellerModel_act 249 = .ok (.aload_n 0, 1) := by decide +kernel
theorem d_RangeTellerModel_act_250 : decode b_RangeTellerModel_act 250 = .ok (.getfield 266, 3) := by decide +kernel
theorem d_RangeTellerModel_act_253 : decode b_RangeTellerModel_act 253 = .ok (.bipush 20, 2) := by decide +kernel
theorem d_RangeTellerModel_act_255 : decode b_RangeTellerModel_act 255 = .ok (.if_icmp .ge 14, 3) := by decide +kernel
theorem d_RangeTellerModel_act_258 : decode b_RangeTellerModel_act 258 = .ok (.aload_n 0, 1) := by decide +kernel
theorem d_RangeTellerModel_act_259 : decode b_RangeTellerModel_act 259 = .ok (.getfield 87, 3) := by decide +kernel
theorem d_RangeTellerModel_act_262 : decode b_RangeTellerModel_act 262 = .ok (.aload_n 0, 1) := by decide +kernel
theorem d_RangeTellerModel_act_263 : decode b_RangeTellerModel_act 263 = .ok (.getfield 266, 3) := by decide +kernel
theorem d_RangeTellerModel_act_266 : decode b_RangeTellerModel_act 266 = .ok (.iload 6, 2) := by decide +kernel
theorem d_RangeTellerModel_act_268 : decode b_RangeTellerModel_act 268 = .ok (.iastore, 1) := by decide +kernel
theorem d_RangeTellerModel_act_226 : decode b_RangeTellerModel_act 226 = .ok (.aload_n 0, 1) := by decide +kernel
theorem d_RangeTellerModel_act_227 : decode b_RangeTellerModel_act 227 = .ok (.iload 6, 2) := by decide +kernel
theorem d_RangeTellerModel_act_229 : decode b_RangeTellerModel_act 229 = .ok (.ifCond .ne 7, 3) := by decide +kernel
theorem d_RangeTellerModel_act_236 : decode b_RangeTellerModel_act 236 = .ok (.iconst 0, 1) := by decide +kernel
theorem d_RangeTellerModel_act_232 : decode b_RangeTellerModel_act 232 = .ok (.iconst 1, 1) := by decide +kernel
theorem d_RangeTellerModel_act_233 : decode b_RangeTellerModel_act 233 = .ok (.goto 4, 3) := by decide +kernel
theorem d_RangeTellerModel_act_203 : decode b_RangeTellerModel_act 203 = .ok (.aload_n 0, 1) := by decide +kernel
theorem d_RangeTellerModel_act_204 : decode b_RangeTellerModel_act 204 = .ok (.getfield 84, 3) := by decide +kernel
theorem d_RangeTellerModel_act_207 : decode b_RangeTellerModel_act 207 = .ok (.aload_n 0, 1) := by decide +kernel
theorem d_RangeTellerModel_act_208 : decode b_RangeTellerModel_act 208 = .ok (.invokevirtual 245, 3) := by decide +kernel
theorem d_RangeTellerModel_act_211 : decode b_RangeTellerModel_act 211 = .ok (.iload 4, 2) := by decide +kernel
theorem d_RangeTellerModel_act_213 : decode b_RangeTellerModel_act 213 = .ok (.iadd, 1) := by decide +kernel
theorem d_RangeTellerModel_act_214 : decode b_RangeTellerModel_act 214 = .ok (.iload 6, 2) := by decide +kernel
theorem d_RangeTellerModel_act_216 : decode b_RangeTellerModel_act 216 = .ok (.iastore, 1) := by decide +kernel
theorem d_RangeTellerModel_act_217 : decode b_RangeTellerModel_act 217 = .ok (.goto 85, 3) := by decide +kernel
theorem d_RangeTellerModel_act_180 : decode b_RangeTellerModel_act 180 = .ok (.aload_n 0, 1) := by decide +kernel
theorem d_RangeTellerModel_act_181 : decode b_RangeTellerModel_act 181 = .ok (.aload_n 0, 1) := by decide +kernel
theorem d_RangeTellerModel_act_182 : decode b_RangeTellerModel_act 182 = .ok (.getfield 84, 3) := by decide +kernel
theorem d_RangeTellerModel_act_185 : decode b_RangeTellerModel_act 185 = .ok (.iload 6, 2) := by decide +kernel
theorem d_RangeTellerModel_act_187 : decode b_RangeTellerModel_act 187 = .ok (.iload 4, 2) := by decide +kernel
theorem d_RangeTellerModel_act_189 : decode b_RangeTellerModel_act 189 = .ok (.iadd, 1) := by decide +kernel
theorem d_RangeTellerModel_act_190 : decode b_RangeTellerModel_act 190 = .ok (.iaload, 1) := by decide +kernel
theorem d_RangeTellerModel_act_191 : decode b_RangeTellerModel_act 191 = .ok (.invokevirtual 254, 3) := by decide +kernel
theorem d_RangeTellerModel_act_194 : decode b_RangeTellerModel_act 194 = .ok (.goto 108, 3) := by decide +kernel
theorem d_RangeTellerModel_act_104 : decode b_RangeTellerModel_act 104 = .ok (.aload_n 0, 1) := by decide +kernel
theorem d_RangeTellerModel_act_105 : decode b_RangeTellerModel_act 105 = .ok (.invokevirtual 245, 3) := by decide +kernel
theorem d_RangeTellerModel_act_108 : decode b_RangeTellerModel_act 108 = .ok (.istore 7, 2) := by decide +kernel
theorem d_RangeTellerModel_act_110 : decode b_RangeTellerModel_act 110 = .ok (.aload_n 0, 1) := by decide +kernel
theorem d_RangeTellerModel_act_111 : decode b_RangeTellerModel_act 111 = .ok (.invokevirtual 245, 3) := by decide +kernel
theorem d_RangeTellerModel_act_114 : decode b_RangeTellerModel_act 114 = .ok (.istore 8, 2) := by decide +kernel
theorem d_RangeTellerModel_act_116 : decode b_RangeTellerModel_act 116 = .ok (.aload_n 0, 1) := by decide +kernel
theorem d_RangeTellerModel_act_117 : decode b_RangeTellerModel_act 117 = .ok (.iload 6, 2) := by decide +kernel
theorem d_RangeTellerModel_act_119 : decode b_RangeTellerModel_act 119 = .ok (.ifCond .eq 8, 3) := by decide +kernel
theorem d_RangeTellerModel_act_127 : decode b_RangeTellerModel_act 127 = .ok (.iload 7, 2) := by decide +kernel
theorem d_RangeTellerModel_act_122 : decode b_RangeTellerModel_act 122 = .ok (.iload 8, 2) := by decide +kernel
theorem d_RangeTellerModel_act_124 : decode b_RangeTellerModel_act 124 = .ok (.goto 5, 3) := by decide +kernel
theorem d_RangeTellerModel_act_67 : decode b_RangeTellerModel_act 67 = .ok (.aload_n 0, 1) := by decide +kernel
theorem d_RangeTellerModel_act_68 : decode b_RangeTellerModel_act 68 = .ok (.iload_n 2, 1) := by decide +kernel
theorem d_RangeTellerModel_act_69 : decode b_RangeTellerModel_act 69 = .ok (.aload_n 0, 1) := by decide +kernel
theorem d_RangeTellerModel_act_70 : decode b_RangeTellerModel_act 70 = .ok (.getfield 239, 3) := by decide +kernel
theorem d_RangeTellerModel_act_73 : decode b_RangeTellerModel_act 73 = .ok (.if_icmp .ge 12, 3) := by decide +kernel
theorem d_RangeTellerModel_act_85 : decode b_RangeTellerModel_act 85 = .ok (.iconst 0, 1) := by decide +kernel
theorem d_RangeTellerModel_act_76 : decode b_RangeTellerModel_act 76 = .ok (.aload_n 0, 1) := by decide +kernel
theorem d_RangeTellerModel_act_77 : decode b_RangeTellerModel_act 77 = .ok (.getfield 69, 3) := by decide +kernel
theorem d_RangeTellerModel_act_80 : decode b_RangeTellerModel_act 80 = .ok (.iload_n 2, 1) := by decide +kernel
theorem d_RangeTellerModel_act_81 : decode b_RangeTellerModel_act 81 = .ok (.iaload, 1) := by decide +kernel
theorem d_RangeTellerModel_act_82 : decode b_RangeTellerModel_act 82 = .ok (.goto 4, 3) := by decide +kernel
theorem d_RangeTellerModel_act_52 : decode b_RangeTellerModel_act 52 = .ok (.aload_n 0, 1) := by decide +kernel
theorem d_RangeTellerModel_act_53 : decode b_RangeTellerModel_act 53 = .ok (.iload 4, 2) := by decide +kernel
theorem d_RangeTellerModel_act_55 : decode b_RangeTellerModel_act 55 = .ok (.invokevirtual 254, 3) := by decide +kernel
theorem d_RangeTellerModel_act_58 : decode b_RangeTellerModel_act 58 = .ok (.goto 244, 3) := by decide +kernel
theorem d_RangeTellerModel_act_29 : decode b_RangeTellerModel_act 29 = .ok (.aload_n 0, 1) := by decide +kernel
theorem d_RangeTellerModel_act_30 : decode b_RangeTellerModel_act 30 = .ok (.aload_n 0, 1) := by decide +kernel
theorem d_RangeTellerModel_act_31 : decode b_RangeTellerModel_act 31 = .ok (.getfield 78, 3) := by decide +kernel
theorem d_RangeTellerModel_act_34 : decode b_RangeTellerModel_act 34 = .ok (.iload 5, 2) := by decide +kernel
theorem d_RangeTellerModel_act_36 : decode b_RangeTellerModel_act 36 = .ok (.iload 4, 2) := by decide +kernel
theorem d_RangeTellerModel_act_38 : decode b_RangeTellerModel_act 38 = .ok (.iadd, 1) := by decide +kernel
theorem d_RangeTellerModel_act_39 : decode b_RangeTellerModel_act 39 = .ok (.iaload, 1) := by decide +kernel
theorem d_RangeTellerModel_act_40 : decode b_RangeTellerModel_act 40 = .ok (.invokevirtual 254, 3) := by decide +kernel
theorem d_RangeTellerModel_act_43 : decode b_RangeTellerModel_act 43 = .ok (.goto 259, 3) := by decide +kernel
theorem d_RangeTellerModel_run_306 : decode b_RangeTellerModel_run 306 = .ok (.goto (-134), 3) := by decide +kernel
theorem d_RangeTellerModel_run_172 : decode b_RangeTellerModel_run 172 = .ok (.aload_n 0, 1) := by decide +kernel
theorem d_RangeTellerModel_run_173 : decode b_RangeTellerModel_run 173 = .ok (.getfield 279, 3) := by decide +kernel
theorem d_RangeTellerModel_run_176 : decode b_RangeTellerModel_run 176 = .ok (.ifCond .ge 133, 3) := by decide +kernel
theorem d_RangeTellerModel_run_309 : decode b_RangeTellerModel_run 309 = .ok (.aload_n 0, 1) := by decide +kernel
theorem d_RangeTellerModel_run_310 : decode b_RangeTellerModel_run 310 = .ok (.iconst 0, 1) := by decide +kernel
theorem d_RangeTellerModel_run_311 : decode b_RangeTellerModel_run 311 = .ok (.putfield 239, 3) := by decide +kernel
theorem d_RangeTellerModel_run_314 : decode b_RangeTellerModel_run 314 = .ok (.aload_n 0, 1) := by decide +kernel
theorem d_RangeTellerModel_run_315 : decode b_RangeTellerModel_run 315 = .ok (.iconst 1, 1) := by decide +kernel
theorem d_RangeTellerModel_run_316 : decode b_RangeTellerModel_run 316 = .ok (.putfield 224, 3) := by decide +kernel
theorem d_RangeTellerModel_run_319 : decode b_RangeTellerModel_run 319 = .ok (.aload_n 0, 1) := by decide +kernel
theorem d_RangeTellerModel_run_320 : decode b_RangeTellerModel_run 320 = .ok (.getfield 279, 3) := by decide +kernel
theorem d_RangeTellerModel_run_323 : decode b_RangeTellerModel_run 323 = .ok (.ireturn, 1) := by decide +kernel
theorem d_RangeTellerModel_run_179 : decode b_RangeTellerModel_run 179 = .ok (.aload_n 0, 1) := by decide +kernel
theorem d_RangeTellerModel_run_180 : decode b_RangeTellerModel_run 180 = .ok (.getfield 251, 3) := by decide +kernel
theorem d_RangeTellerModel_run_183 : decode b_RangeTellerModel_run 183 = .ok (.istore 6, 2) := by decide +kernel
theorem d_RangeTellerModel_run_185 : decode b_RangeTellerModel_run 185 = .ok (.aload_n 0, 1) := by decide +kernel
theorem d_RangeTellerModel_run_186 : decode b_RangeTellerModel_run 186 = .ok (.getfield 273, 3) := by decide +kernel
theorem d_RangeTellerModel_run_189 : decode b_RangeTellerModel_run 189 = .ok (.iload 4, 2) := by decide +kernel
theorem d_RangeTellerModel_run_191 : decode b_RangeTellerModel_run 191 = .ok (.if_icmp .ne 17, 3) := by decide +kernel
theorem d_RangeTellerModel_run_208 : decode b_RangeTellerModel_run 208 = .ok (.aload_n 0, 1) := by decide +kernel
theorem d_RangeTellerModel_run_209 : decode b_RangeTellerModel_run 209 = .ok (.dup, 1) := by decide +kernel
theorem d_RangeTellerModel_run_210 : decode b_RangeTellerModel_run 210 = .ok (.getfield 273, 3) := by decide +kernel
theorem d_RangeTellerModel_run_213 : decode b_RangeTellerModel_run 213 = .ok (.iconst 1, 1) := by decide +kernel
theorem d_RangeTellerModel_run_214 : decode b_RangeTellerModel_run 214 = .ok (.iadd, 1) := by decide +kernel
theorem d_RangeTellerModel_run_215 : decode b_RangeTellerModel_run 215 = .ok (.putfield 273, 3) := by decide +kernel
theorem d_RangeTellerModel_run_218 : decode b_RangeTellerModel_run 218 = .ok (.aload_n 0, 1) := by decide +kernel
theorem d_RangeTellerModel_run_219 : decode b_RangeTellerModel_run 219 = .ok (.iload 6, 2) := by decide +kernel
theorem d_RangeTellerModel_run_221 : decode b_RangeTellerModel_run 221 = .ok (.invokevirtual 282, 3) := by decide +kernel
theorem d_RangeTellerModel_run_224 : decode b_RangeTellerModel_run 224 = .ok (.istore 7, 2) := by decide +kernel
theorem d_RangeTellerModel_run_226 : decode b_RangeTellerModel_run 226 = .ok (.iload 7, 2) := by decide +kernel
theorem d_RangeTellerModel_run_228 : decode b_RangeTellerModel_run 228 = .ok (.ifCond .le 18, 3) := by decide +kernel
theorem d_RangeTellerModel_run_246 : decode b_RangeTellerModel_run 246 = .ok (.aload_n 0, 1) := by decide +kernel
theorem d_RangeTellerModel_run_247 : decode b_RangeTellerModel_run 247 = .ok (.iload 6, 2) := by decide +kernel
theorem d_RangeTellerModel_run_249 : decode b_RangeTellerModel_run 249 = .ok (.iconst 1, 1) := by decide +kernel
theorem d_RangeTellerModel_run_250 : decode b_RangeTellerModel_run 250 = .ok (.iadd, 1) := by decide +kernel
theorem d_RangeTellerModel_run_251 : decode b_RangeTellerModel_run 251 = .ok (.putfield 251, 3) := by decide +kernel
theorem d_RangeTellerModel_run_254 : decode b_RangeTellerModel_run 254 = .ok (.aload_n 0, 1) := by decide +kernel
theorem d_RangeTellerModel_run_255 : decode b_RangeTellerModel_run 255 = .ok (.getfield 17, 3) := by decide +kernel
theorem d_RangeTellerModel_run_258 : decode b_RangeTellerModel_run 258 = .ok (.iload 6, 2) := by decide +kernel
theorem d_RangeTellerModel_run_260 : decode b_RangeTellerModel_run 260 = .ok (.iaload, 1) := by decide +kernel
theorem d_RangeTellerModel_run_261 : decode b_RangeTellerModel_run 261 = .ok (.bipush 10, 2) := by decide +kernel
theorem d_RangeTellerModel_run_263 : decode b_RangeTellerModel_run 263 = .ok (.if_icmp .ge 20, 3) := by decide +kernel
theorem d_RangeTellerModel_run_283 : decode b_RangeTellerModel_run 283 = .ok (.aload_n 0, 1) := by decide +kernel
theorem d_RangeTellerModel_run_284 : decode b_RangeTellerModel_run 284 = .ok (.iload 6, 2) := by decide +kernel
theorem d_RangeTellerModel_run_286 : decode b_RangeTellerModel_run 286 = .ok (.iload 5, 2) := by decide +kernel
theorem d_RangeTellerModel_run_288 : decode b_RangeTellerModel_run 288 = .ok (.invokevirtual 288, 3) := by decide +kernel
theorem d_RangeTellerModel_run_291 : decode b_RangeTellerModel_run 291 = .ok (.aload_n 0, 1) := by decide +kernel
theorem d_RangeTellerModel_run_292 : decode b_RangeTellerModel_run 292 = .ok (.getfield 17, 3) := by decide +kernel
theorem d_RangeTellerModel_run_295 : decode b_RangeTellerModel_run 295 = .ok (.iload 6, 2) := by decide +kernel
theorem d_RangeTellerModel_run_297 : decode b_RangeTellerModel_run 297 = .ok (.iaload, 1) := by decide +kernel
theorem d_RangeTellerModel_run_298 : decode b_RangeTellerModel_run 298 = .ok (.bipush 27, 2) := by decide +kernel
theorem d_RangeTellerModel_run_300 : decode b_RangeTellerModel_run 300 = .ok (.if_icmp .ne 6, 3) := by decide +kernel
theorem d_RangeTellerModel_run_303 : decode b_RangeTellerModel_run 303 = .ok (.iinc 5 1, 3) := by decide +kernel
theorem d_RangeTellerModel_run_266 : decode b_RangeTellerModel_run 266 = .ok (.aload_n 0, 1) := by decide +kernel
theorem d_RangeTellerModel_run_267 : decode b_RangeTellerModel_run 267 = .ok (.iload 6, 2) := by decide +kernel
theorem d_RangeTellerModel_run_269 : decode b_RangeTellerModel_run 269 = .ok (.invokevirtual 285, 3) := by decide +kernel
theorem d_RangeTellerModel_run_272 : decode b_RangeTellerModel_run 272 = .ok (.ifCond .ne 34, 3) := by decide +kernel
theorem d_RangeTellerModel_run_275 : decode b_RangeTellerModel_run 275 = .ok (.aload_n 0, 1) := by decide +kernel
theorem d_RangeTellerModel_run_276 : decode b_RangeTellerModel_run 276 = .ok (.iconst 0, 1) := by decide +kernel
theorem d_RangeTellerModel_run_277 : decode b_RangeTellerModel_run 277 = .ok (.putfield 279, 3) := by decide +kernel
theorem d_RangeTellerModel_run_280 : decode b_RangeTellerModel_run 280 = .ok (.goto 26, 3) := by decide +kernel
theorem d_RangeTellerModel_run_231 : decode b_RangeTellerModel_run 231 = .ok (.aload_n 0, 1) := by decide +kernel
theorem d_RangeTellerModel_run_232 : decode b_RangeTellerModel_run 232 = .ok (.iload 7, 2) := by decide +kernel
theorem d_RangeTellerModel_run_234 : decode b_RangeTellerModel_run 234 = .ok (.putfield 279, 3) := by decide +kernel
theorem d_RangeTellerModel_run_237 : decode b_RangeTellerModel_run 237 = .ok (.aload_n 0, 1) := by decide +kernel
theorem d_RangeTellerModel_run_238 : decode b_RangeTellerModel_run 238 = .ok (.iload 6, 2) := by decide +kernel
theorem d_RangeTellerModel_run_240 : decode b_RangeTellerModel_run 240 = .ok (.putfield 276, 3) := by decide +kernel
theorem d_RangeTellerModel_run_243 : decode b_RangeTellerModel_run 243 = .ok (.goto (-71), 3) := by decide +kernel
theorem d_RangeTellerModel_run_194 : decode b_RangeTellerModel_run 194 = .ok (.aload_n 0, 1) := by decide +kernel
theorem d_RangeTellerModel_run_195 : decode b_RangeTellerModel_run 195 = .ok (.iconst 5, 1) := by decide +kernel
theorem d_RangeTellerModel_run_196 : decode b_RangeTellerModel_run 196 = .ok (.putfield 279, 3) := by decide +kernel
theorem d_RangeTellerModel_run_199 : decode b_RangeTellerModel_run 199 = .ok (.aload_n 0, 1) := by decide +kernel
theorem d_RangeTellerModel_run_200 : decode b_RangeTellerModel_run 200 = .ok (.iload 6, 2) := by decide +kernel
theorem d_RangeTellerModel_run_202 : decode b_RangeTellerModel_run 202 = .ok (.putfield 276, 3) := by decide +kernel
theorem d_RangeTellerModel_run_205 : decode b_RangeTellerModel_run 205 = .ok (.goto (-33), 3) := by decide +kernel
theorem d_RangeTellerModel_run_120 : decode b_RangeTellerModel_run 120 = .ok (.aload_n 0, 1) := by decide +kernel
theorem d_RangeTellerModel_run_121 : decode b_RangeTellerModel_run 121 = .ok (.iconst 0, 1) := by decide +kernel
theorem d_RangeTellerModel_run_122 : decode b_RangeTellerModel_run 122 = .ok (.putfield 242, 3) := by decide +kernel
theorem d_RangeTellerModel_run_125 : decode b_RangeTellerModel_run 125 = .ok (.aload_n 0, 1) := by decide +kernel
theorem d_RangeTellerModel_run_126 : decode b_RangeTellerModel_run 126 = .ok (.getfield 81, 3) := by decide +kernel
theorem d_RangeTellerModel_run_129 : decode b_RangeTellerModel_run 129 = .ok (.iconst 0, 1) := by decide +kernel
theorem d_RangeTellerModel_run_130 : decode b_RangeTellerModel_run 130 = .ok (.iconst 0, 1) := by decide +kernel
theorem d_RangeTellerModel_run_131 : decode b_RangeTellerModel_run 131 = .ok (.iastore, 1) := by decide +kernel
theorem d_RangeTellerModel_run_132 : decode b_RangeTellerModel_run 132 = .ok (.aload_n 0, 1) := by decide +kernel
theorem d_RangeTellerModel_run_133 : decode b_RangeTellerModel_run 133 = .ok (.aload_n 0, 1) := by decide +kernel
theorem d_RangeTellerModel_run_134 : decode b_RangeTellerModel_run 134 = .ok (.getfield 53, 3) := by decide +kernel
theorem d_RangeTellerModel_run_137 : decode b_RangeTellerModel_run 137 = .ok (.iconst 0, 1) := by decide +kernel
theorem d_RangeTellerModel_run_138 : decode b_RangeTellerModel_run 138 = .ok (.iaload, 1) := by decide +kernel
theorem d_RangeTellerModel_run_139 : decode b_RangeTellerModel_run 139 = .ok (.putfield 251, 3) := by decide +kernel
theorem d_RangeTellerModel_run_142 : decode b_RangeTellerModel_run 142 = .ok (.aload_n 0, 1) := by decide +kernel
theorem d_RangeTellerModel_run_143 : decode b_RangeTellerModel_run 143 = .ok (.iconst 0, 1) := by decide +kernel
theorem d_RangeTellerModel_run_144 : decode b_RangeTellerModel_run 144 = .ok (.putfield 273, 3) := by decide +kernel
theorem d_RangeTellerModel_run_147 : decode b_RangeTellerModel_run 147 = .ok (.aload_n 0, 1) := by decide +kernel
theorem d_RangeTellerModel_run_148 : decode b_RangeTellerModel_run 148 = .ok (.iconst 0, 1) := by decide +kernel
theorem d_RangeTellerModel_run_149 : decode b_RangeTellerModel_run 149 = .ok (.putfield 266, 3) := by decide +kernel
theorem d_RangeTellerModel_run_152 : decode b_RangeTellerModel_run 152 = .ok (.aload_n 0, 1) := by decide +kernel
theorem d_RangeTellerModel_run_153 : decode b_RangeTellerModel_run 153 = .ok (.bipush (-3), 2) := by decide +kernel
theorem d_RangeTellerModel_run_155 : decode b_RangeTellerModel_run 155 = .ok (.putfield 248, 3) := by decide +kernel
theorem d_RangeTellerModel_run_158 : decode b_RangeTellerModel_run 158 = .ok (.aload_n 0, 1) := by decide +kernel
theorem d_RangeTellerModel_run_159 : decode b_RangeTellerModel_run 159 = .ok (.bipush (-3), 2) := by decide +kernel
theorem d_RangeTellerModel_run_161 : decode b_RangeTellerModel_run 161 = .ok (.putfield 276, 3) := by decide +kernel
theorem d_RangeTellerModel_run_164 : decode b_RangeTellerModel_run 164 = .ok (.aload_n 0, 1) := by decide +kernel
theorem d_RangeTellerModel_run_165 : decode b_RangeTellerModel_run 165 = .ok (.iconst (-1), 1) := by decide +kernel
theorem d_RangeTellerModel_run_166 : decode b_RangeTellerModel_run 166 = .ok (.putfield 279, 3) := by decide +kernel
theorem d_RangeTellerModel_run_169 : decode b_RangeTellerModel_run 169 = .ok (.iconst 0, 1) := by decide +kernel
theorem d_RangeTellerModel_run_170 : decode b_RangeTellerModel_run 170 = .ok (.istore 5, 2) := by decide +kernel
theorem d_RangeTellerModel_run_100 : decode b_RangeTellerModel_run 100 = .ok (.aload_n 0, 1) := by decide +kernel
theorem d_RangeTellerModel_run_101 : decode b_RangeTellerModel_run 101 = .ok (.getfield 44, 3) := by decide +kernel
theorem d_RangeTellerModel_run_104 : decode b_RangeTellerModel_run 104 = .ok (.iconst 0, 1) := by decide +kernel
theorem d_RangeTellerModel_run_105 : decode b_RangeTellerModel_run 105 = .ok (.iaload, 1) := by decide +kernel
theorem d_RangeTellerModel_run_106 : decode b_RangeTellerModel_run 106 = .ok (.iconst 1, 1) := by decide +kernel
theorem d_RangeTellerModel_run_107 : decode b_RangeTellerModel_run 107 = .ok (.if_icmp .le 13, 3) := by decide +kernel
theorem d_RangeTellerModel_run_110 : decode b_RangeTellerModel_run 110 = .ok (.aload_n 0, 1) := by decide +kernel
theorem d_RangeTellerModel_run_111 : decode b_RangeTellerModel_run 111 = .ok (.getfield 78, 3) := by decide +kernel
theorem d_RangeTellerModel_run_114 : decode b_RangeTellerModel_run 114 = .ok (.iconst 1, 1) := by decide +kernel
theorem d_RangeTellerModel_run_115 : decode b_RangeTellerModel_run 115 = .ok (.iload_n 2, 1) := by decide +kernel
theorem d_RangeTellerModel_run_116 : decode b_RangeTellerModel_run 116 = .ok (.bipush 63, 2) := by decide +kernel
theorem d_RangeTellerModel_run_118 : decode b_RangeTellerModel_run 118 = .ok (.iand, 1) := by decide +kernel
theorem d_RangeTellerModel_run_119 : decode b_RangeTellerModel_run 119 = .ok (.iastore, 1) := by decide +kernel
theorem d_RangeTellerModel_run_61 : decode b_RangeTellerModel_run 61 = .ok (.iload 5, 2) := by decide +kernel
theorem d_RangeTellerModel_run_63 : decode b_RangeTellerModel_run 63 = .ok (.iconst 4, 1) := by decide +kernel
theorem d_RangeTellerModel_run_64 : decode b_RangeTellerModel_run 64 = .ok (.if_icmp .ge 17, 3) := by decide +kernel
theorem d_RangeTellerModel_run_81 : decode b_RangeTellerModel_run 81 = .ok (.aload_n 0, 1) := by decide +kernel
theorem d_RangeTellerModel_run_82 : decode b_RangeTellerModel_run 82 = .ok (.getfield 44, 3) := by decide +kernel
theorem d_RangeTellerModel_run_85 : decode b_RangeTellerModel_run 85 = .ok (.iconst 0, 1) := by decide +kernel
theorem d_RangeTellerModel_run_86 : decode b_RangeTellerModel_run 86 = .ok (.iaload, 1) := by decide +kernel
theorem d_RangeTellerModel_run_87 : decode b_RangeTellerModel_run 87 = .ok (.ifCond .le 13, 3) := by decide +kernel
theorem d_RangeTellerModel_run_90 : decode b_RangeTellerModel_run 90 = .ok (.aload_n 0, 1) := by decide +kernel
theorem d_RangeTellerModel_run_91 : decode b_RangeTellerModel_run 91 = .ok (.getfield 78, 3) := by decide +kernel
theorem d_RangeTellerModel_run_94 : decode b_RangeTellerModel_run 94 = .ok (.iconst 0, 1) := by decide +kernel
theorem d_RangeTellerModel_run_95 : decode b_RangeTellerModel_run 95 = .ok (.iload_n 1, 1) := by decide +kernel
theorem d_RangeTellerModel_run_96 : decode b_RangeTellerModel_run 96 = .ok (.bipush 63, 2) := by decide +kernel
theorem d_RangeTellerModel_run_98 : decode b_RangeTellerModel_run 98 = .ok (.iand, 1) := by decide +kernel
theorem d_RangeTellerModel_run_99 : decode b_RangeTellerModel_run 99 = .ok (.iastore, 1) := by decide +kernel
theorem d_RangeTellerModel_run_67 : decode b_RangeTellerModel_run 67 = .ok (.aload_n 0, 1) := by decide +kernel
theorem d_RangeTellerModel_run_68 : decode b_RangeTellerModel_run 68 = .ok (.getfield 78, 3) := by decide +kernel
theorem d_RangeTellerModel_run_71 : decode b_RangeTellerModel_run 71 = .ok (.iload 5, 2) := by decide +kernel
theorem d_RangeTellerModel_run_73 : decode b_RangeTellerModel_run 73 = .ok (.iconst 0, 1) := by decide +kernel
theorem d_RangeTellerModel_run_74 : decode b_RangeTellerModel_run 74 = .ok (.iastore, 1) := by decide +kernel
theorem d_RangeTellerModel_run_75 : decode b_RangeTellerModel_run 75 = .ok (.iinc 5 1, 3) := by decide +kernel
theorem d_RangeTellerModel_run_78 : decode b_RangeTellerModel_run 78 = .ok (.goto (-17), 3) := by decide +kernel
theorem d_RangeTellerModel_run_37 : decode b_RangeTellerModel_run 37 = .ok (.iload 5, 2) := by decide +kernel
theorem d_RangeTellerModel_run_39 : decode b_RangeTellerModel_run 39 = .ok (.bipush 16, 2) := by decide +kernel
theorem d_RangeTellerModel_run_41 : decode b_RangeTellerModel_run 41 = .ok (.if_icmp .ge 17, 3) := by decide +kernel
theorem d_RangeTellerModel_run_58 : decode b_RangeTellerModel_run 58 = .ok (.iconst 0, 1) := by decide +kernel
theorem d_RangeTellerModel_run_59 : decode b_RangeTellerModel_run 59 = .ok (.istore 5, 2) := by decide +kernel
theorem d_RangeTellerModel_run_44 : decode b_RangeTellerModel_run 44 = .ok (.aload_n 0, 1) := by decide +kernel
theorem d_RangeTellerModel_run_45 : decode b_RangeTellerModel_run 45 = .ok (.getfield 84, 3) := by decide +kernel
theorem d_RangeTellerModel_run_48 : decode b_RangeTellerModel_run 48 = .ok (.iload 5, 2) := by decide +kernel
theorem d_RangeTellerModel_run_50 : decode b_RangeTellerModel_run 50 = .ok (.iconst 0, 1) := by decide +kernel
theorem d_RangeTellerModel_run_51 : decode b_RangeTellerModel_run 51 = .ok (.iastore, 1) := by decide +kernel
theorem d_RangeTellerModel_run_52 : decode b_RangeTellerModel_run 52 = .ok (.iinc 5 1, 3) := by decide +kernel
theorem d_RangeTellerModel_run_55 : decode b_RangeTellerModel_run 55 = .ok (.goto (-18), 3) := by decide +kernel
theorem d_RangeTellerModel_run_32 : decode b_RangeTellerModel_run 32 = .ok (.istore 4, 2) := by decide +kernel
theorem d_RangeTellerModel_run_34 : decode b_RangeTellerModel_run 34 = .ok (.iconst 0, 1) := by decide +kernel
theorem d_RangeTellerModel_run_35 : decode b_RangeTellerModel_run 35 = .ok (.istore 5, 2) := by decide +kernel
theorem d_RangeTellerModel_run_0 : decode b_RangeTellerModel_run 0 = .ok (.aload_n 0, 1) := by decide +kernel
theorem d_RangeTellerModel_run_1 : decode b_RangeTellerModel_run 1 = .ok (.getfield 227, 3) := by decide +kernel
theorem d_RangeTellerModel_run_4 : decode b_RangeTellerModel_run 4 = .ok (.ifCond .ne 6, 3) := by decide +kernel
theorem d_RangeTellerModel_run_10 : decode b_RangeTellerModel_run 10 = .ok (.iload_n 3, 1) := by decide +kernel
theorem d_RangeTellerModel_run_11 : decode b_RangeTellerModel_run 11 = .ok (.ifCond .ge 7, 3) := by decide +kernel
theorem d_RangeTellerModel_run_18 : decode b_RangeTellerModel_run 18 = .ok (.iload_n 3, 1) := by decide +kernel
theorem d_RangeTellerModel_run_19 : decode b_RangeTellerModel_run 19 = .ok (.sipush 2000, 3) := by decide +kernel
theorem d_RangeTellerModel_run_22 : decode b_RangeTellerModel_run 22 = .ok (.if_icmp .le 9, 3) := by decide +kernel
theorem d_RangeTellerModel_run_31 : decode b_RangeTellerModel_run 31 = .ok (.iload_n 3, 1) := by decide +kernel
theorem d_RangeTellerModel_run_25 : decode b_RangeTellerModel_run 25 = .ok (.sipush 2000, 3) := by decide +kernel
theorem d_RangeTellerModel_run_28 : decode b_RangeTellerModel_run 28 = .ok (.goto 4, 3) := by decide +kernel
theorem d_RangeTellerModel_run_14 : decode b_RangeTellerModel_run 14 = .ok (.iconst 0, 1) := by decide +kernel
theorem d_RangeTellerModel_run_15 : decode b_RangeTellerModel_run 15 = .ok (.goto 17, 3) := by decide +kernel
theorem d_RangeTellerModel_run_7 : decode b_RangeTellerModel_run 7 = .ok (.bipush (-3), 2) := by decide +kernel
theorem d_RangeTellerModel_run_9 : decode b_RangeTellerModel_run 9 = .ok (.ireturn, 1) := by decide +kernel
theorem d_RangeTellerModel_outcome_0 : decode b_RangeTellerModel_outcome 0 = .ok (.aload_n 0, 1) := by decide +kernel
theorem d_RangeTellerModel_outcome_1 : decode b_RangeTellerModel_outcome 1 = .ok (.getfield 224, 3) := by decide +kernel
theorem d_RangeTellerModel_outcome_4 : decode b_RangeTellerModel_outcome 4 = .ok (.ifCond .ne 6, 3) := by decide +kernel
theorem d_RangeTellerModel_outcome_10 : decode b_RangeTellerModel_outcome 10 = .ok (.iload_n 1, 1) := by decide +kernel
theorem d_RangeTellerModel_outcome_11 : decode b_RangeTellerModel_outcome 11 = .ok (.ifCond .ne 10, 3) := by decide +kernel
theorem d_RangeTellerModel_outcome_21 : decode b_RangeTellerModel_outcome 21 = .ok (.iload_n 1, 1) := by decide +kernel
theorem d_RangeTellerModel_outcome_22 : decode b_RangeTellerModel_outcome 22 = .ok (.iconst 1, 1) := by decide +kernel
theorem d_RangeTellerModel_outcome_23 : decode b_RangeTellerModel_outcome 23 = .ok (.if_icmp .ne 10, 3) := by decide +kernel
theorem d_RangeTellerModel_outcome_33 : decode b_RangeTellerModel_outcome 33 = .ok (.iload_n 1, 1) := by decide +kernel
theorem d_RangeTellerModel_outcome_34 : decode b_RangeTellerModel_outcome 34 = .ok (.iconst 2, 1) := by decide +kernel
theorem d_RangeTellerModel_outcome_35 : decode b_RangeTellerModel_outcome 35 = .ok (.if_icmp .ne 10, 3) := by decide +kernel
theorem d_RangeTellerModel_outcome_45 : decode b_RangeTellerModel_outcome 45 = .ok (.iload_n 1, 1) := by decide +kernel
theorem d_RangeTellerModel_outcome_46 : decode b_RangeTellerModel_outcome 46 = .ok (.iconst 3, 1) := by decide +kernel
theorem d_RangeTellerModel_outcome_47 : decode b_RangeTellerModel_outcome 47 = .ok (.if_icmp .ne 10, 3) := by decide +kernel
theorem d_RangeTellerModel_outcome_57 : decode b_RangeTellerModel_outcome 57 = .ok (.bipush (-3), 2) := by decide +kernel
theorem d_RangeTellerModel_outcome_59 : decode b_RangeTellerModel_outcome 59 = .ok (.ireturn, 1) := by decide +kernel
theorem d_RangeTellerModel_outcome_50 : decode b_RangeTellerModel_outcome 50 = .ok (.aload_n 0, 1) := by decide +kernel
theorem d_RangeTellerModel_outcome_51 : decode b_RangeTellerModel_outcome 51 = .ok (.getfield 266, 3) := by decide +kernel
theorem d_RangeTellerModel_outcome_54 : decode b_RangeTellerModel_outcome 54 = .ok (.goto 5, 3) := by decide +kernel
theorem d_RangeTellerModel_outcome_38 : decode b_RangeTellerModel_outcome 38 = .ok (.aload_n 0, 1) := by decide +kernel
theorem d_RangeTellerModel_outcome_39 : decode b_RangeTellerModel_outcome 39 = .ok (.getfield 273, 3) := by decide +kernel
theorem d_RangeTellerModel_outcome_42 : decode b_RangeTellerModel_outcome 42 = .ok (.goto 17, 3) := by decide +kernel
theorem d_RangeTellerModel_outcome_26 : decode b_RangeTellerModel_outcome 26 = .ok (.aload_n 0, 1) := by decide +kernel
theorem d_RangeTellerModel_outcome_27 : decode b_RangeTellerModel_outcome 27 = .ok (.getfield 276, 3) := by decide +kernel
theorem d_RangeTellerModel_outcome_30 : decode b_RangeTellerModel_outcome 30 = .ok (.goto 29, 3) := by decide +kernel
theorem d_RangeTellerModel_outcome_14 : decode b_RangeTellerModel_outcome 14 = .ok (.aload_n 0, 1) := by decide +kernel
theorem d_RangeTellerModel_outcome_15 : decode b_RangeTellerModel_outcome 15 = .ok (.getfield 248, 3) := by decide +kernel
theorem d_RangeTellerModel_outcome_18 : decode b_RangeTellerModel_outcome 18 = .ok (.goto 41, 3) := by decide +kernel
theorem d_RangeTellerModel_outcome_7 : decode b_RangeTellerModel_outcome 7 = .ok (.bipush (-3), 2) := by decide +kernel
theorem d_RangeTellerModel_outcome_9 : decode b_RangeTellerModel_outcome 9 = .ok (.ireturn, 1) := by decide +kernel
theorem d_RangeTellerModel_output_0 : decode b_RangeTellerModel_output 0 = .ok (.aload_n 0, 1) := by decide +kernel
theorem d_RangeTellerModel_output_1 : decode b_RangeTellerModel_output 1 = .ok (.getfield 224, 3) := by decide +kernel
theorem d_RangeTellerModel_output_4 : decode b_RangeTellerModel_output 4 = .ok (.ifCond .eq 21, 3) := by decide +kernel
theorem d_RangeTellerModel_output_25 : decode b_RangeTellerModel_output 25 = .ok (.bipush (-3), 2) := by decide +kernel
theorem d_RangeTellerModel_output_27 : decode b_RangeTellerModel_output 27 = .ok (.goto 9, 3) := by decide +kernel
theorem d_RangeTellerModel_output_36 : decode b_RangeTellerModel_output 36 = .ok (.ireturn, 1) := by decide +kernel
theorem d_RangeTellerModel_output_7 : decode b_RangeTellerModel_output 7 = .ok (.iload_n 1, 1) := by decide +kernel
theorem d_RangeTellerModel_output_8 : decode b_RangeTellerModel_output 8 = .ok (.ifCond .lt 17, 3) := by decide +kernel
theorem d_RangeTellerModel_output_11 : decode b_RangeTellerModel_output 11 = .ok (.iload_n 1, 1) := by decide +kernel
theorem d_RangeTellerModel_output_12 : decode b_RangeTellerModel_output 12 = .ok (.aload_n 0, 1) := by decide +kernel
theorem d_RangeTellerModel_output_13 : decode b_RangeTellerModel_output 13 = .ok (.getfield 266, 3) := by decide +kernel
theorem d_RangeTellerModel_output_16 : decode b_RangeTellerModel_output 16 = .ok (.if_icmp .ge 9, 3) := by decide +kernel
theorem d_RangeTellerModel_output_19 : decode b_RangeTellerModel_output 19 = .ok (.iload_n 1, 1) := by decide +kernel
theorem d_RangeTellerModel_output_20 : decode b_RangeTellerModel_output 20 = .ok (.bipush 19, 2) := by decide +kernel
theorem d_RangeTellerModel_output_22 : decode b_RangeTellerModel_output 22 = .ok (.if_icmp .le 8, 3) := by decide +kernel
theorem d_RangeTellerModel_output_30 : decode b_RangeTellerModel_output 30 = .ok (.aload_n 0, 1) := by decide +kernel
theorem d_RangeTellerModel_output_31 : decode b_RangeTellerModel_output 31 = .ok (.getfield 87, 3) := by decide +kernel
theorem d_RangeTellerModel_output_34 : decode b_RangeTellerModel_output 34 = .ok (.iload_n 1, 1) := by decide +kernel
theorem d_RangeTellerModel_output_35 : decode b_RangeTellerModel_output 35 = .ok (.iaload, 1) := by decide +kernel
theorem d_RangeTellerModel_memory_0 : decode b_RangeTellerModel_memory 0 = .ok (.aload_n 0, 1) := by decide +kernel
theorem d_RangeTellerModel_memory_1 : decode b_RangeTellerModel_memory 1 = .ok (.getfield 224, 3) := by decide +kernel
theorem d_RangeTellerModel_memory_4 : decode b_RangeTellerModel_memory 4 = .ok (.ifCond .eq 13, 3) := by decide +kernel
theorem d_RangeTellerModel_memory_17 : decode b_RangeTellerModel_memory 17 = .ok (.bipush (-3), 2) := by decide +kernel
theorem d_RangeTellerModel_memory_19 : decode b_RangeTellerModel_memory 19 = .ok (.goto 9, 3) := by decide +kernel
theorem d_RangeTellerModel_memory_28 : decode b_RangeTellerModel_memory 28 = .ok (.ireturn, 1) := by decide +kernel
theorem d_RangeTellerModel_memory_7 : decode b_RangeTellerModel_memory 7 = .ok (.iload_n 1, 1) := by decide +kernel
theorem d_RangeTellerModel_memory_8 : decode b_RangeTellerModel_memory 8 = .ok (.ifCond .lt 9, 3) := by decide +kernel
theorem d_RangeTellerModel_memory_11 : decode b_RangeTellerModel_memory 11 = .ok (.iload_n 1, 1) := by decide +kernel
theorem d_RangeTellerModel_memory_12 : decode b_RangeTellerModel_memory 12 = .ok (.bipush 15, 2) := by decide +kernel
