theorem d_RangeTellerModel_drop_58 : decode b_RangeTellerModel_drop 58 = .ok (.iconst 1, 1) := by decide +kernel
theorem d_RangeTellerModel_drop_59 : decode b_RangeTellerModel_drop 59 = .ok (.goto 4, 3) := by decide +kernel
theorem d_RangeTellerModel_drop_31 : decode b_RangeTellerModel_drop 31 = .ok (.aload_n 0, 1) := by decide +kernel
theorem d_RangeTellerModel_drop_32 : decode b_RangeTellerModel_drop 32 = .ok (.dup, 1) := by decide +kernel
theorem d_RangeTellerModel_drop_33 : decode b_RangeTellerModel_drop 33 = .ok (.getfield 191, 3) := by decide +kernel
theorem d_RangeTellerModel_drop_36 : decode b_RangeTellerModel_drop 36 = .ok (.iconst 1, 1) := by decide +kernel
theorem d_RangeTellerModel_drop_37 : decode b_RangeTellerModel_drop 37 = .ok (.isub, 1) := by decide +kernel
theorem d_RangeTellerModel_drop_38 : decode b_RangeTellerModel_drop 38 = .ok (.putfield 191, 3) := by decide +kernel
theorem d_RangeTellerModel_drop_41 : decode b_RangeTellerModel_drop 41 = .ok (.goto 23, 3) := by decide +kernel
theorem d_RangeTellerModel_drop_0 : decode b_RangeTellerModel_drop 0 = .ok (.iconst 1, 1) := by decide +kernel
theorem d_RangeTellerModel_drop_1 : decode b_RangeTellerModel_drop 1 = .ok (.istore_n 2, 1) := by decide +kernel
theorem d_RangeTellerModel_drop_2 : decode b_RangeTellerModel_drop 2 = .ok (.iconst 0, 1) := by decide +kernel
theorem d_RangeTellerModel_drop_3 : decode b_RangeTellerModel_drop 3 = .ok (.istore_n 3, 1) := by decide +kernel
theorem d_RangeTellerModel_give_0 : decode b_RangeTellerModel_give 0 = .ok (.aload_n 0, 1) := by decide +kernel
theorem d_RangeTellerModel_give_1 : decode b_RangeTellerModel_give 1 = .ok (.aload_n 0, 1) := by decide +kernel
theorem d_RangeTellerModel_give_2 : decode b_RangeTellerModel_give 2 = .ok (.getfield 191, 3) := by decide +kernel
theorem d_RangeTellerModel_give_5 : decode b_RangeTellerModel_give 5 = .ok (.iload_n 1, 1) := by decide +kernel
theorem d_RangeTellerModel_give_6 : decode b_RangeTellerModel_give 6 = .ok (.iadd, 1) := by decide +kernel
theorem d_RangeTellerModel_give_7 : decode b_RangeTellerModel_give 7 = .ok (.putfield 191, 3) := by decide +kernel
theorem d_RangeTellerModel_give_10 : decode b_RangeTellerModel_give 10 = .ok (.aload_n 0, 1) := by decide +kernel
theorem d_RangeTellerModel_give_11 : decode b_RangeTellerModel_give 11 = .ok (.getfield 191, 3) := by decide +kernel
theorem d_RangeTellerModel_give_14 : decode b_RangeTellerModel_give 14 = .ok (.bipush 10, 2) := by decide +kernel
theorem d_RangeTellerModel_give_16 : decode b_RangeTellerModel_give 16 = .ok (.if_icmp .gt 7, 3) := by decide +kernel
theorem d_RangeTellerModel_give_23 : decode b_RangeTellerModel_give 23 = .ok (.iconst 0, 1) := by decide +kernel
theorem d_RangeTellerModel_give_24 : decode b_RangeTellerModel_give 24 = .ok (.ireturn, 1) := by decide +kernel
theorem d_RangeTellerModel_give_19 : decode b_RangeTellerModel_give 19 = .ok (.iconst 1, 1) := by decide +kernel
theorem d_RangeTellerModel_give_20 : decode b_RangeTellerModel_give 20 = .ok (.goto 4, 3) := by decide +kernel
theorem d_RangeTellerModel_open_0 : decode b_RangeTellerModel_open 0 = .ok (.aload_n 0, 1) := by decide +kernel
theorem d_RangeTellerModel_open_1 : decode b_RangeTellerModel_open 1 = .ok (.getfield 56, 3) := by decide +kernel
theorem d_RangeTellerModel_open_4 : decode b_RangeTellerModel_open 4 = .ok (.aload_n 0, 1) := by decide +kernel
theorem d_RangeTellerModel_open_5 : decode b_RangeTellerModel_open 5 = .ok (.getfield 174, 3) := by decide +kernel
theorem d_RangeTellerModel_open_8 : decode b_RangeTellerModel_open 8 = .ok (.iload_n 1, 1) := by decide +kernel
theorem d_RangeTellerModel_open_9 : decode b_RangeTellerModel_open 9 = .ok (.iastore, 1) := by decide +kernel
theorem d_RangeTellerModel_open_10 : decode b_RangeTellerModel_open 10 = .ok (.aload_n 0, 1) := by decide +kernel
theorem d_RangeTellerModel_open_11 : decode b_RangeTellerModel_open 11 = .ok (.getfield 59, 3) := by decide +kernel
theorem d_RangeTellerModel_open_14 : decode b_RangeTellerModel_open 14 = .ok (.aload_n 0, 1) := by decide +kernel
theorem d_RangeTellerModel_open_15 : decode b_RangeTellerModel_open 15 = .ok (.getfield 174, 3) := by decide +kernel
theorem d_RangeTellerModel_open_18 : decode b_RangeTellerModel_open 18 = .ok (.aload_n 0, 1) := by decide +kernel
theorem d_RangeTellerModel_open_19 : decode b_RangeTellerModel_open 19 = .ok (.getfield 191, 3) := by decide +kernel
theorem d_RangeTellerModel_open_22 : decode b_RangeTellerModel_open 22 = .ok (.iastore, 1) := by decide +kernel
theorem d_RangeTellerModel_open_23 : decode b_RangeTellerModel_open 23 = .ok (.aload_n 0, 1) := by decide +kernel
theorem d_RangeTellerModel_open_24 : decode b_RangeTellerModel_open 24 = .ok (.getfield 62, 3) := by decide +kernel
theorem d_RangeTellerModel_open_27 : decode b_RangeTellerModel_open 27 = .ok (.aload_n 0, 1) := by decide +kernel
theorem d_RangeTellerModel_open_28 : decode b_RangeTellerModel_open 28 = .ok (.getfield 174, 3) := by decide +kernel
theorem d_RangeTellerModel_open_31 : decode b_RangeTellerModel_open 31 = .ok (.iload_n 2, 1) := by decide +kernel
theorem d_RangeTellerModel_open_32 : decode b_RangeTellerModel_open 32 = .ok (.iastore, 1) := by decide +kernel
theorem d_RangeTellerModel_open_33 : decode b_RangeTellerModel_open 33 = .ok (.aload_n 0, 1) := by decide +kernel
theorem d_RangeTellerModel_open_34 : decode b_RangeTellerModel_open 34 = .ok (.getfield 65, 3) := by decide +kernel
theorem d_RangeTellerModel_open_37 : decode b_RangeTellerModel_open 37 = .ok (.aload_n 0, 1) := by decide +kernel
theorem d_RangeTellerModel_open_38 : decode b_RangeTellerModel_open 38 = .ok (.getfield 174, 3) := by decide +kernel
theorem d_RangeTellerModel_open_41 : decode b_RangeTellerModel_open 41 = .ok (.iconst 1, 1) := by decide +kernel
theorem d_RangeTellerModel_open_42 : decode b_RangeTellerModel_open 42 = .ok (.bastore, 1) := by decide +kernel
theorem d_RangeTellerModel_open_43 : decode b_RangeTellerModel_open 43 = .ok (.aload_n 0, 1) := by decide +kernel
theorem d_RangeTellerModel_open_44 : decode b_RangeTellerModel_open 44 = .ok (.dup, 1) := by decide +kernel
theorem d_RangeTellerModel_open_45 : decode b_RangeTellerModel_open 45 = .ok (.getfield 174, 3) := by decide +kernel
theorem d_RangeTellerModel_open_48 : decode b_RangeTellerModel_open 48 = .ok (.iconst 1, 1) := by decide +kernel
theorem d_RangeTellerModel_open_49 : decode b_RangeTellerModel_open 49 = .ok (.iadd, 1) := by decide +kernel
theorem d_RangeTellerModel_open_50 : decode b_RangeTellerModel_open 50 = .ok (.putfield 174, 3) := by decide +kernel
theorem d_RangeTellerModel_open_53 : decode b_RangeTellerModel_open 53 = .ok (.return_, 1) := by decide +kernel
theorem d_RangeTellerModel_deaden_0 : decode b_RangeTellerModel_deaden 0 = .ok (.aload_n 0, 1) := by decide +kernel
theorem d_RangeTellerModel_deaden_1 : decode b_RangeTellerModel_deaden 1 = .ok (.getfield 65, 3) := by decide +kernel
theorem d_RangeTellerModel_deaden_4 : decode b_RangeTellerModel_deaden 4 = .ok (.aload_n 0, 1) := by decide +kernel
theorem d_RangeTellerModel_deaden_5 : decode b_RangeTellerModel_deaden 5 = .ok (.getfield 174, 3) := by decide +kernel
theorem d_RangeTellerModel_deaden_8 : decode b_RangeTellerModel_deaden 8 = .ok (.iconst 1, 1) := by decide +kernel
theorem d_RangeTellerModel_deaden_9 : decode b_RangeTellerModel_deaden 9 = .ok (.isub, 1) := by decide +kernel
theorem d_RangeTellerModel_deaden_10 : decode b_RangeTellerModel_deaden 10 = .ok (.iconst 0, 1) := by decide +kernel
theorem d_RangeTellerModel_deaden_11 : decode b_RangeTellerModel_deaden 11 = .ok (.bastore, 1) := by decide +kernel
theorem d_RangeTellerModel_deaden_12 : decode b_RangeTellerModel_deaden 12 = .ok (.aload_n 0, 1) := by decide +kernel
theorem d_RangeTellerModel_deaden_13 : decode b_RangeTellerModel_deaden 13 = .ok (.aload_n 0, 1) := by decide +kernel
theorem d_RangeTellerModel_deaden_14 : decode b_RangeTellerModel_deaden 14 = .ok (.getfield 59, 3) := by decide +kernel
theorem d_RangeTellerModel_deaden_17 : decode b_RangeTellerModel_deaden 17 = .ok (.aload_n 0, 1) := by decide +kernel
theorem d_RangeTellerModel_deaden_18 : decode b_RangeTellerModel_deaden 18 = .ok (.getfield 174, 3) := by decide +kernel
theorem d_RangeTellerModel_deaden_21 : decode b_RangeTellerModel_deaden 21 = .ok (.iconst 1, 1) := by decide +kernel
theorem d_RangeTellerModel_deaden_22 : decode b_RangeTellerModel_deaden 22 = .ok (.isub, 1) := by decide +kernel
theorem d_RangeTellerModel_deaden_23 : decode b_RangeTellerModel_deaden 23 = .ok (.iaload, 1) := by decide +kernel
theorem d_RangeTellerModel_deaden_24 : decode b_RangeTellerModel_deaden 24 = .ok (.putfield 191, 3) := by decide +kernel
theorem d_RangeTellerModel_deaden_27 : decode b_RangeTellerModel_deaden 27 = .ok (.iconst 1, 1) := by decide +kernel
theorem d_RangeTellerModel_deaden_28 : decode b_RangeTellerModel_deaden 28 = .ok (.ireturn, 1) := by decide +kernel
theorem d_RangeTellerModel_needs_86 : decode b_RangeTellerModel_needs 86 = .ok (.iastore, 1) := by decide +kernel
theorem d_RangeTellerModel_needs_87 : decode b_RangeTellerModel_needs 87 = .ok (.aload_n 0, 1) := by decide +kernel
theorem d_RangeTellerModel_needs_88 : decode b_RangeTellerModel_needs 88 = .ok (.getfield 41, 3) := by decide +kernel
theorem d_RangeTellerModel_needs_91 : decode b_RangeTellerModel_needs 91 = .ok (.iload_n 1, 1) := by decide +kernel
theorem d_RangeTellerModel_needs_92 : decode b_RangeTellerModel_needs 92 = .ok (.iaload, 1) := by decide +kernel
theorem d_RangeTellerModel_needs_93 : decode b_RangeTellerModel_needs 93 = .ok (.ireturn, 1) := by decide +kernel
theorem d_RangeTellerModel_needs_44 : decode b_RangeTellerModel_needs 44 = .ok (.istore 5, 2) := by decide +kernel
theorem d_RangeTellerModel_needs_46 : decode b_RangeTellerModel_needs 46 = .ok (.aload_n 0, 1) := by decide +kernel
theorem d_RangeTellerModel_needs_47 : decode b_RangeTellerModel_needs 47 = .ok (.getfield 35, 3) := by decide +kernel
theorem d_RangeTellerModel_needs_50 : decode b_RangeTellerModel_needs 50 = .ok (.iload_n 1, 1) := by decide +kernel
theorem d_RangeTellerModel_needs_51 : decode b_RangeTellerModel_needs 51 = .ok (.iload 4, 2) := by decide +kernel
theorem d_RangeTellerModel_needs_53 : decode b_RangeTellerModel_needs 53 = .ok (.iastore, 1) := by decide +kernel
theorem d_RangeTellerModel_needs_54 : decode b_RangeTellerModel_needs 54 = .ok (.aload_n 0, 1) := by decide +kernel
theorem d_RangeTellerModel_needs_55 : decode b_RangeTellerModel_needs 55 = .ok (.getfield 38, 3) := by decide +kernel
theorem d_RangeTellerModel_needs_58 : decode b_RangeTellerModel_needs 58 = .ok (.iload_n 1, 1) := by decide +kernel
theorem d_RangeTellerModel_needs_59 : decode b_RangeTellerModel_needs 59 = .ok (.aload_n 0, 1) := by decide +kernel
theorem d_RangeTellerModel_needs_60 : decode b_RangeTellerModel_needs 60 = .ok (.getfield 59, 3) := by decide +kernel
theorem d_RangeTellerModel_needs_63 : decode b_RangeTellerModel_needs 63 = .ok (.iload_n 3, 1) := by decide +kernel
theorem d_RangeTellerModel_needs_64 : decode b_RangeTellerModel_needs 64 = .ok (.iaload, 1) := by decide +kernel
theorem d_RangeTellerModel_needs_65 : decode b_RangeTellerModel_needs 65 = .ok (.iastore, 1) := by decide +kernel
theorem d_RangeTellerModel_needs_66 : decode b_RangeTellerModel_needs 66 = .ok (.aload_n 0, 1) := by decide +kernel
theorem d_RangeTellerModel_needs_67 : decode b_RangeTellerModel_needs 67 = .ok (.getfield 41, 3) := by decide +kernel
theorem d_RangeTellerModel_needs_70 : decode b_RangeTellerModel_needs 70 = .ok (.iload_n 1, 1) := by decide +kernel
theorem d_RangeTellerModel_needs_71 : decode b_RangeTellerModel_needs 71 = .ok (.iload 5, 2) := by decide +kernel
theorem d_RangeTellerModel_needs_73 : decode b_RangeTellerModel_needs 73 = .ok (.ifCond .eq 7, 3) := by decide +kernel
theorem d_RangeTellerModel_needs_80 : decode b_RangeTellerModel_needs 80 = .ok (.aload_n 0, 1) := by decide +kernel
theorem d_RangeTellerModel_needs_81 : decode b_RangeTellerModel_needs 81 = .ok (.getfield 62, 3) := by decide +kernel
theorem d_RangeTellerModel_needs_84 : decode b_RangeTellerModel_needs 84 = .ok (.iload_n 3, 1) := by decide +kernel
theorem d_RangeTellerModel_needs_85 : decode b_RangeTellerModel_needs 85 = .ok (.iaload, 1) := by decide +kernel
theorem d_RangeTellerModel_needs_76 : decode b_RangeTellerModel_needs 76 = .ok (.iconst 0, 1) := by decide +kernel
theorem d_RangeTellerModel_needs_77 : decode b_RangeTellerModel_needs 77 = .ok (.goto 9, 3) := by decide +kernel
theorem d_RangeTellerModel_needs_43 : decode b_RangeTellerModel_needs 43 = .ok (.iconst 0, 1) := by decide +kernel
theorem d_RangeTellerModel_needs_0 : decode b_RangeTellerModel_needs 0 = .ok (.aload_n 0, 1) := by decide +kernel
theorem d_RangeTellerModel_needs_1 : decode b_RangeTellerModel_needs 1 = .ok (.getfield 174, 3) := by decide +kernel
theorem d_RangeTellerModel_needs_4 : decode b_RangeTellerModel_needs 4 = .ok (.iconst 1, 1) := by decide +kernel
theorem d_RangeTellerModel_needs_5 : decode b_RangeTellerModel_needs 5 = .ok (.isub, 1) := by decide +kernel
theorem d_RangeTellerModel_needs_6 : decode b_RangeTellerModel_needs 6 = .ok (.iload_n 2, 1) := by decide +kernel
theorem d_RangeTellerModel_needs_7 : decode b_RangeTellerModel_needs 7 = .ok (.isub, 1) := by decide +kernel
theorem d_RangeTellerModel_needs_8 : decode b_RangeTellerModel_needs 8 = .ok (.istore_n 3, 1) := by decide +kernel
theorem d_RangeTellerModel_needs_9 : decode b_RangeTellerModel_needs 9 = .ok (.iload_n 3, 1) := by decide +kernel
theorem d_RangeTellerModel_needs_10 : decode b_RangeTellerModel_needs 10 = .ok (.ifCond .ge 5, 3) := by decide +kernel
theorem d_RangeTellerModel_needs_15 : decode b_RangeTellerModel_needs 15 = .ok (.aload_n 0, 1) := by decide +kernel
theorem d_RangeTellerModel_needs_16 : decode b_RangeTellerModel_needs 16 = .ok (.getfield 56, 3) := by decide +kernel
theorem d_RangeTellerModel_needs_19 : decode b_RangeTellerModel_needs 19 = .ok (.iload_n 3, 1) := by decide +kernel
theorem d_RangeTellerModel_needs_20 : decode b_RangeTellerModel_needs 20 = .ok (.iaload, 1) := by decide +kernel
theorem d_RangeTellerModel_needs_21 : decode b_RangeTellerModel_needs 21 = .ok (.istore 4, 2) := by decide +kernel
theorem d_RangeTellerModel_needs_23 : decode b_RangeTellerModel_needs 23 = .ok (.iload 4, 2) := by decide +kernel
theorem d_RangeTellerModel_needs_25 : decode b_RangeTellerModel_needs 25 = .ok (.ifCond .lt 18, 3) := by decide +kernel
theorem d_RangeTellerModel_needs_28 : decode b_RangeTellerModel_needs 28 = .ok (.aload_n 0, 1) := by decide +kernel
theorem d_RangeTellerModel_needs_29 : decode b_RangeTellerModel_needs 29 = .ok (.getfield 17, 3) := by decide +kernel
theorem d_RangeTellerModel_needs_32 : decode b_RangeTellerModel_needs 32 = .ok (.iload 4, 2) := by decide +kernel
theorem d_RangeTellerModel_needs_34 : decode b_RangeTellerModel_needs 34 = .ok (.iaload, 1) := by decide +kernel
theorem d_RangeTellerModel_needs_35 : decode b_RangeTellerModel_needs 35 = .ok (.iconst 2, 1) := by decide +kernel
theorem d_RangeTellerModel_needs_36 : decode b_RangeTellerModel_needs 36 = .ok (.if_icmp .ne 7, 3) := by decide +kernel
theorem d_RangeTellerModel_needs_39 : decode b_RangeTellerModel_needs 39 = .ok (.iconst 1, 1) := by decide +kernel
theorem d_RangeTellerModel_needs_40 : decode b_RangeTellerModel_needs 40 = .ok (.goto 4, 3) := by decide +kernel
theorem d_RangeTellerModel_needs_13 : decode b_RangeTellerModel_needs 13 = .ok (.iconst (-1), 1) := by decide +kernel
theorem d_RangeTellerModel_needs_14 : decode b_RangeTellerModel_needs 14 = .ok (.ireturn, 1) := by decide +kernel
theorem d_RangeTellerModel_checkEnd_77 : decode b_RangeTellerModel_checkEnd 77 = .ok (.aload_n 0, 1) := by decide +kernel
theorem d_RangeTellerModel_checkEnd_78 : decode b_RangeTellerModel_checkEnd 78 = .ok (.dup, 1) := by decide +kernel
theorem d_RangeTellerModel_checkEnd_79 : decode b_RangeTellerModel_checkEnd 79 = .ok (.getfield 174, 3) := by decide +kernel
theorem d_RangeTellerModel_checkEnd_82 : decode b_RangeTellerModel_checkEnd 82 = .ok (.iconst 1, 1) := by decide +kernel
theorem d_RangeTellerModel_checkEnd_83 : decode b_RangeTellerModel_checkEnd 83 = .ok (.isub, 1) := by decide +kernel
theorem d_RangeTellerModel_checkEnd_84 : decode b_RangeTellerModel_checkEnd 84 = .ok (.putfield 174, 3) := by decide +kernel
theorem d_RangeTellerModel_checkEnd_87 : decode b_RangeTellerModel_checkEnd 87 = .ok (.aload_n 0, 1) := by decide +kernel
theorem d_RangeTellerModel_checkEnd_88 : decode b_RangeTellerModel_checkEnd 88 = .ok (.getfield 174, 3) := by decide +kernel
theorem d_RangeTellerModel_checkEnd_91 : decode b_RangeTellerModel_checkEnd 91 = .ok (.ifCond .eq 12, 3) := by decide +kernel
theorem d_RangeTellerModel_checkEnd_103 : decode b_RangeTellerModel_checkEnd 103 = .ok (.iconst 1, 1) := by decide +kernel
theorem d_RangeTellerModel_checkEnd_104 : decode b_RangeTellerModel_checkEnd 104 = .ok (.goto 4, 3) := by decide +kernel
theorem d_RangeTellerModel_checkEnd_108 : decode b_RangeTellerModel_checkEnd 108 = .ok (.ireturn, 1) := by decide +kernel
theorem d_RangeTellerModel_checkEnd_94 : decode b_RangeTellerModel_checkEnd 94 = .ok (.aload_n 0, 1) := by decide +kernel
theorem d_RangeTellerModel_checkEnd_95 : decode b_RangeTellerModel_checkEnd 95 = .ok (.iload 4, 2) := by decide +kernel
theorem d_RangeTellerModel_checkEnd_97 : decode b_RangeTellerModel_checkEnd 97 = .ok (.invokevirtual 197, 3) := by decide +kernel
theorem d_RangeTellerModel_checkEnd_100 : decode b_RangeTellerModel_checkEnd 100 = .ok (.ifCond .eq 7, 3) := by decide +kernel
theorem d_RangeTellerModel_checkEnd_107 : decode b_RangeTellerModel_checkEnd 107 = .ok (.iconst 0, 1) := by decide +kernel
theorem d_RangeTellerModel_checkEnd_0 : decode b_RangeTellerModel_checkEnd 0 = .ok (.aload_n 0, 1) := by decide +kernel
theorem d_RangeTellerModel_checkEnd_1 : decode b_RangeTellerModel_checkEnd 1 = .ok (.getfield 174, 3) := by decide +kernel
theorem d_RangeTellerModel_checkEnd_4 : decode b_RangeTellerModel_checkEnd 4 = .ok (.iconst 1, 1) := by decide +kernel
theorem d_RangeTellerModel_checkEnd_5 : decode b_RangeTellerModel_checkEnd 5 = .ok (.isub, 1) := by decide +kernel
theorem d_RangeTellerModel_checkEnd_6 : decode b_RangeTellerModel_checkEnd 6 = .ok (.istore_n 2, 1) := by decide +kernel
theorem d_RangeTellerModel_checkEnd_7 : decode b_RangeTellerModel_checkEnd 7 = .ok (.aload_n 0, 1) := by decide +kernel
theorem d_RangeTellerModel_checkEnd_8 : decode b_RangeTellerModel_checkEnd 8 = .ok (.getfield 56, 3) := by decide +kernel
theorem d_RangeTellerModel_checkEnd_11 : decode b_RangeTellerModel_checkEnd 11 = .ok (.iload_n 2, 1) := by decide +kernel
theorem d_RangeTellerModel_checkEnd_12 : decode b_RangeTellerModel_checkEnd 12 = .ok (.iaload, 1) := by decide +kernel
theorem d_RangeTellerModel_checkEnd_13 : decode b_RangeTellerModel_checkEnd 13 = .ok (.istore_n 3, 1) := by decide +kernel
theorem d_RangeTellerModel_checkEnd_14 : decode b_RangeTellerModel_checkEnd 14 = .ok (.aload_n 0, 1) := by decide +kernel
theorem d_RangeTellerModel_checkEnd_15 : decode b_RangeTellerModel_checkEnd 15 = .ok (.getfield 62, 3) := by decide +kernel
theorem d_RangeTellerModel_checkEnd_18 : decode b_RangeTellerModel_checkEnd 18 = .ok (.iload_n 2, 1) := by decide +kernel
theorem d_RangeTellerModel_checkEnd_19 : decode b_RangeTellerModel_checkEnd 19 = .ok (.iaload, 1) := by decide +kernel
theorem d_RangeTellerModel_checkEnd_20 : decode b_RangeTellerModel_checkEnd 20 = .ok (.istore 4, 2) := by decide +kernel
theorem d_RangeTellerModel_checkEnd_22 : decode b_RangeTellerModel_checkEnd 22 = .ok (.aload_n 0, 1) := by decide +kernel
theorem d_RangeTellerModel_checkEnd_23 : decode b_RangeTellerModel_checkEnd 23 = .ok (.iload 4, 2) := by decide +kernel
theorem d_RangeTellerModel_checkEnd_25 : decode b_RangeTellerModel_checkEnd 25 = .ok (.invokevirtual 194, 3) := by decide +kernel
theorem d_RangeTellerModel_checkEnd_28 : decode b_RangeTellerModel_checkEnd 28 = .ok (.ifCond .eq 16, 3) := by decide +kernel
theorem d_RangeTellerModel_checkEnd_44 : decode b_RangeTellerModel_checkEnd 44 = .ok (.iconst 0, 1) := by decide +kernel
theorem d_RangeTellerModel_checkEnd_45 : decode b_RangeTellerModel_checkEnd 45 = .ok (.ireturn, 1) := by decide +kernel
theorem d_RangeTellerModel_checkEnd_31 : decode b_RangeTellerModel_checkEnd 31 = .ok (.aload_n 0, 1) := by decide +kernel
theorem d_RangeTellerModel_checkEnd_32 : decode b_RangeTellerModel_checkEnd 32 = .ok (.getfield 191, 3) := by decide +kernel
theorem d_RangeTellerModel_checkEnd_35 : decode b_RangeTellerModel_checkEnd 35 = .ok (.aload_n 0, 1) := by decide +kernel
theorem d_RangeTellerModel_checkEnd_36 : decode b_RangeTellerModel_checkEnd 36 = .ok (.getfield 59, 3) := by decide +kernel
theorem d_RangeTellerModel_checkEnd_39 : decode b_RangeTellerModel_checkEnd 39 = .ok (.iload_n 2, 1) := by decide +kernel
theorem d_RangeTellerModel_checkEnd_40 : decode b_RangeTellerModel_checkEnd 40 = .ok (.iaload, 1) := by decide +kernel
theorem d_RangeTellerModel_checkEnd_41 : decode b_RangeTellerModel_checkEnd 41 = .ok (.if_icmp .eq 5, 3) := by decide +kernel
theorem d_RangeTellerModel_checkEnd_46 : decode b_RangeTellerModel_checkEnd 46 = .ok (.iload_n 3, 1) := by decide +kernel
theorem d_RangeTellerModel_checkEnd_47 : decode b_RangeTellerModel_checkEnd 47 = .ok (.ifCond .lt 30, 3) := by decide +kernel
theorem d_RangeTellerModel_checkEnd_50 : decode b_RangeTellerModel_checkEnd 50 = .ok (.aload_n 0, 1) := by decide +kernel
theorem d_RangeTellerModel_checkEnd_51 : decode b_RangeTellerModel_checkEnd 51 = .ok (.getfield 17, 3) := by decide +kernel
theorem d_RangeTellerModel_checkEnd_54 : decode b_RangeTellerModel_checkEnd 54 = .ok (.iload_n 3, 1) := by decide +kernel
theorem d_RangeTellerModel_checkEnd_55 : decode b_RangeTellerModel_checkEnd 55 = .ok (.iaload, 1) := by decide +kernel
theorem d_RangeTellerModel_checkEnd_56 : decode b_RangeTellerModel_checkEnd 56 = .ok (.iconst 3, 1) := by decide +kernel
theorem d_RangeTellerModel_checkEnd_57 : decode b_RangeTellerModel_checkEnd 57 = .ok (.if_icmp .ne 20, 3) := by decide +kernel
theorem d_RangeTellerModel_checkEnd_60 : decode b_RangeTellerModel_checkEnd 60 = .ok (.iload 4, 2) := by decide +kernel
theorem d_RangeTellerModel_checkEnd_62 : decode b_RangeTellerModel_checkEnd 62 = .ok (.iconst 1, 1) := by decide +kernel
theorem d_RangeTellerModel_checkEnd_63 : decode b_RangeTellerModel_checkEnd 63 = .ok (.if_icmp .ne 14, 3) := by decide +kernel
theorem d_RangeTellerModel_checkEnd_66 : decode b_RangeTellerModel_checkEnd 66 = .ok (.aload_n 0, 1) := by decide +kernel
theorem d_RangeTellerModel_checkEnd_67 : decode b_RangeTellerModel_checkEnd 67 = .ok (.getfield 29, 3) := by decide +kernel
theorem d_RangeTellerModel_checkEnd_70 : decode b_RangeTellerModel_checkEnd 70 = .ok (.iload_n 3, 1) := by decide +kernel
theorem d_RangeTellerModel_checkEnd_71 : decode b_RangeTellerModel_checkEnd 71 = .ok (.iaload, 1) := by decide +kernel
theorem d_RangeTellerModel_checkEnd_72 : decode b_RangeTellerModel_checkEnd 72 = .ok (.ifCond .ge 5, 3) := by decide +kernel
theorem d_RangeTellerModel_checkEnd_75 : decode b_RangeTellerModel_checkEnd 75 = .ok (.iconst 0, 1) := by decide +kernel
theorem d_RangeTellerModel_checkEnd_76 : decode b_RangeTellerModel_checkEnd 76 = .ok (.ireturn, 1) := by decide +kernel
theorem d_RangeTellerModel_checkFlow_0 : decode b_RangeTellerModel_checkFlow 0 = .ok (.aload_n 0, 1) := by decide +kernel
theorem d_RangeTellerModel_checkFlow_1 : decode b_RangeTellerModel_checkFlow 1 = .ok (.getfield 20, 3) := by decide +kernel
theorem d_RangeTellerModel_checkFlow_4 : decode b_RangeTellerModel_checkFlow 4 = .ok (.iload_n 1, 1) := by decide +kernel
theorem d_RangeTellerModel_checkFlow_5 : decode b_RangeTellerModel_checkFlow 5 = .ok (.iaload, 1) := by decide +kernel
theorem d_RangeTellerModel_checkFlow_6 : decode b_RangeTellerModel_checkFlow 6 = .ok (.istore_n 2, 1) := by decide +kernel
theorem d_RangeTellerModel_checkFlow_7 : decode b_RangeTellerModel_checkFlow 7 = .ok (.aload_n 0, 1) := by decide +kernel
theorem d_RangeTellerModel_checkFlow_8 : decode b_RangeTellerModel_checkFlow 8 = .ok (.getfield 23, 3) := by decide +kernel
theorem d_RangeTellerModel_checkFlow_11 : decode b_RangeTellerModel_checkFlow 11 = .ok (.iload_n 1, 1) := by decide +kernel
theorem d_RangeTellerModel_checkFlow_12 : decode b_RangeTellerModel_checkFlow 12 = .ok (.iaload, 1) := by decide +kernel
theorem d_RangeTellerModel_checkFlow_13 : decode b_RangeTellerModel_checkFlow 13 = .ok (.istore_n 3, 1) := by decide +kernel
theorem d_RangeTellerModel_checkFlow_14 : decode b_RangeTellerModel_checkFlow 14 = .ok (.aload_n 0, 1) := by decide +kernel
theorem d_RangeTellerModel_checkFlow_15 : decode b_RangeTellerModel_checkFlow 15 = .ok (.getfield 17, 3) := by decide +kernel
theorem d_RangeTellerModel_checkFlow_18 : decode b_RangeTellerModel_checkFlow 18 = .ok (.iload_n 1, 1) := by decide +kernel
theorem d_RangeTellerModel_checkFlow_19 : decode b_RangeTellerModel_checkFlow 19 = .ok (.iaload, 1) := by decide +kernel
theorem d_RangeTellerModel_checkFlow_20 : decode b_RangeTellerModel_checkFlow 20 = .ok (.tableswitch 277 0 8 #[52, 57, 57, 65, 83, 135, 141, 176, 225], 52) := by decide +kernel
theorem d_RangeTellerModel_checkFlow_72 : decode b_RangeTellerModel_checkFlow 72 = .ok (.aload_n 0, 1) := by decide +kernel
theorem d_RangeTellerModel_checkFlow_73 : decode b_RangeTellerModel_checkFlow 73 = .ok (.invokevirtual 200, 3) := by decide +kernel
theorem d_RangeTellerModel_checkFlow_76 : decode b_RangeTellerModel_checkFlow 76 = .ok (.ireturn, 1) := by decide +kernel
theorem d_RangeTellerModel_checkFlow_77 : decode b_RangeTellerModel_checkFlow 77 = .ok (.aload_n 0, 1) := by decide +kernel
theorem d_RangeTellerModel_checkFlow_78 : decode b_RangeTellerModel_checkFlow 78 = .ok (.iload_n 1, 1) := by decide +kernel
theorem d_RangeTellerModel_checkFlow_79 : decode b_RangeTellerModel_checkFlow 79 = .ok (.iload_n 2, 1) := by decide +kernel
theorem d_RangeTellerModel_checkFlow_80 : decode b_RangeTellerModel_checkFlow 80 = .ok (.invokevirtual 204, 3) := by decide +kernel
theorem d_RangeTellerModel_checkFlow_83 : decode b_RangeTellerModel_checkFlow 83 = .ok (.iconst 1, 1) := by decide +kernel
theorem d_RangeTellerModel_checkFlow_84 : decode b_RangeTellerModel_checkFlow 84 = .ok (.ireturn, 1) := by decide +kernel
theorem d_RangeTellerModel_checkFlow_85 : decode b_RangeTellerModel_checkFlow 85 = .ok (.aload_n 0, 1) := by decide +kernel
theorem d_RangeTellerModel_checkFlow_86 : decode b_RangeTellerModel_checkFlow 86 = .ok (.iconst 1, 1) := by decide +kernel
theorem d_RangeTellerModel_checkFlow_87 : decode b_RangeTellerModel_checkFlow 87 = .ok (.invokevirtual 194, 3) := by decide +kernel
theorem d_RangeTellerModel_checkFlow_90 : decode b_RangeTellerModel_checkFlow 90 = .ok (.ifCond .ne 5, 3) := by decide +kernel
theorem d_RangeTellerModel_checkFlow_95 : decode b_RangeTellerModel_checkFlow 95 = .ok (.aload_n 0, 1) := by decide +kernel
theorem d_RangeTellerModel_checkFlow_96 : decode b_RangeTellerModel_checkFlow 96 = .ok (.iload_n 1, 1) := by decide +kernel
theorem d_RangeTellerModel_checkFlow_97 : decode b_RangeTellerModel_checkFlow 97 = .ok (.iload_n 2, 1) := by decide +kernel
theorem d_RangeTellerModel_checkFlow_98 : decode b_RangeTellerModel_checkFlow 98 = .ok (.invokevirtual 204, 3) := by decide +kernel
theorem d_RangeTellerModel_checkFlow_101 : decode b_RangeTellerModel_checkFlow 101 = .ok (.iconst 1, 1) := by decide +kernel
theorem d_RangeTellerModel_checkFlow_102 : decode b_RangeTellerModel_checkFlow 102 = .ok (.ireturn, 1) := by decide +kernel
theorem d_RangeTellerModel_checkFlow_93 : decode b_RangeTellerModel_checkFlow 93 = .ok (.iconst 0, 1) := by decide +kernel
theorem d_RangeTellerModel_checkFlow_94 : decode b_RangeTellerModel_checkFlow 94 = .ok (.ireturn, 1) := by decide +kernel
theorem d_RangeTellerModel_checkFlow_103 : decode b_RangeTellerModel_checkFlow 103 = .ok (.aload_n 0, 1) := by decide +kernel
theorem d_RangeTellerModel_checkFlow_104 : decode b_RangeTellerModel_checkFlow 104 = .ok (.aload_n 0, 1) := by decide +kernel
theorem d_RangeTellerModel_checkFlow_105 : decode b_RangeTellerModel_checkFlow 105 = .ok (.getfield 62, 3) := by decide +kernel
theorem d_RangeTellerModel_checkFlow_108 : decode b_RangeTellerModel_checkFlow 108 = .ok (.aload_n 0, 1) := by decide +kernel
theorem d_RangeTellerModel_checkFlow_109 : decode b_RangeTellerModel_checkFlow 109 = .ok (.getfield 174, 3) := by decide +kernel
theorem d_RangeTellerModel_checkFlow_112 : decode b_RangeTellerModel_checkFlow 112 = .ok (.iconst 1, 1) := by decide +kernel
theorem d_RangeTellerModel_checkFlow_113 : decode b_RangeTellerModel_checkFlow 113 = .ok (.isub, 1) := by decide +kernel
theorem d_RangeTellerModel_checkFlow_114 : decode b_RangeTellerModel_checkFlow 114 = .ok (.iaload, 1) := by decide +kernel
theorem d_RangeTellerModel_checkFlow_115 : decode b_RangeTellerModel_checkFlow 115 = .ok (.invokevirtual 194, 3) := by decide +kernel
theorem d_RangeTellerModel_checkFlow_118 : decode b_RangeTellerModel_checkFlow 118 = .ok (.ifCond .eq 21, 3) := by decide +kernel
theorem d_RangeTellerModel_checkFlow_139 : decode b_RangeTellerModel_checkFlow 139 = .ok (.iconst 0, 1) := by decide +kernel
theorem d_RangeTellerModel_checkFlow_140 : decode b_RangeTellerModel_checkFlow 140 = .ok (.ireturn, 1) := by decide +kernel
theorem d_RangeTellerModel_checkFlow_121 : decode b_RangeTellerModel_checkFlow 121 = .ok (.aload_n 0, 1) := by decide +kernel
theorem d_RangeTellerModel_checkFlow_122 : decode b_RangeTellerModel_checkFlow 122 = .ok (.getfield 191, 3) := by decide +kernel
theorem d_RangeTellerModel_checkFlow_125 : decode b_RangeTellerModel_checkFlow 125 = .ok (.aload_n 0, 1) := by decide +kernel
theorem d_RangeTellerModel_checkFlow_126 : decode b_RangeTellerModel_checkFlow 126 = .ok (.getfield 59, 3) := by decide +kernel
theorem d_RangeTellerModel_checkFlow_129 : decode b_RangeTellerModel_checkFlow 129 = .ok (.aload_n 0, 1) := by decide +kernel
theorem d_RangeTellerModel_checkFlow_130 : decode b_RangeTellerModel_checkFlow 130 = .ok (.getfield 174, 3) := by decide +kernel
theorem d_RangeTellerModel_checkFlow_133 : decode b_RangeTellerModel_checkFlow 133 = .ok (.iconst 1, 1) := by decide +kernel
theorem d_RangeTellerModel_checkFlow_134 : decode b_RangeTellerModel_checkFlow 134 = .ok (.isub, 1) := by decide +kernel
theorem d_RangeTellerModel_checkFlow_135 : decode b_RangeTellerModel_checkFlow 135 = .ok (.iaload, 1) := by decide +kernel
theorem d_RangeTellerModel_checkFlow_136 : decode b_RangeTellerModel_checkFlow 136 = .ok (.if_icmp .eq 5, 3) := by decide +kernel
theorem d_RangeTellerModel_checkFlow_141 : decode b_RangeTellerModel_checkFlow 141 = .ok (.aload_n 0, 1) := by decide +kernel
theorem d_RangeTellerModel_checkFlow_142 : decode b_RangeTellerModel_checkFlow 142 = .ok (.getfield 65, 3) := by decide +kernel
theorem d_RangeTellerModel_checkFlow_145 : decode b_RangeTellerModel_checkFlow 145 = .ok (.aload_n 0, 1) := by decide +kernel
theorem d_RangeTellerModel_checkFlow_146 : decode b_RangeTellerModel_checkFlow 146 = .ok (.getfield 174, 3) := by decide +kernel
theorem d_RangeTellerModel_checkFlow_149 : decode b_RangeTellerModel_checkFlow 149 = .ok (.iconst 1, 1) := by decide +kernel
theorem d_RangeTellerModel_checkFlow_150 : decode b_RangeTellerModel_checkFlow 150 = .ok (.isub, 1) := by decide +kernel
theorem d_RangeTellerModel_checkFlow_151 : decode b_RangeTellerModel_checkFlow 151 = .ok (.iconst 1, 1) := by decide +kernel
theorem d_RangeTellerModel_checkFlow_152 : decode b_RangeTellerModel_checkFlow 152 = .ok (.bastore, 1) := by decide +kernel
theorem d_RangeTellerModel_checkFlow_153 : decode b_RangeTellerModel_checkFlow 153 = .ok (.iconst 1, 1) := by decide +kernel
theorem d_RangeTellerModel_checkFlow_154 : decode b_RangeTellerModel_checkFlow 154 = .ok (.ireturn, 1) := by decide +kernel
theorem d_RangeTellerModel_checkFlow_155 : decode b_RangeTellerModel_checkFlow 155 = .ok (.aload_n 0, 1) := by decide +kernel
theorem d_RangeTellerModel_checkFlow_156 : decode b_RangeTellerModel_checkFlow 156 = .ok (.iload_n 1, 1) := by decide +kernel
theorem d_RangeTellerModel_checkFlow_157 : decode b_RangeTellerModel_checkFlow 157 = .ok (.invokevirtual 208, 3) := by decide +kernel
theorem d_RangeTellerModel_checkFlow_160 : decode b_RangeTellerModel_checkFlow 160 = .ok (.ireturn, 1) := by decide +kernel
theorem d_RangeTellerModel_checkFlow_161 : decode b_RangeTellerModel_checkFlow 161 = .ok (.aload_n 0, 1) := by decide +kernel
theorem d_RangeTellerModel_checkFlow_162 : decode b_RangeTellerModel_checkFlow 162 = .ok (.iload_n 1, 1) := by decide +kernel
theorem d_RangeTellerModel_checkFlow_163 : decode b_RangeTellerModel_checkFlow 163 = .ok (.iload_n 2, 1) := by decide +kernel
theorem d_RangeTellerModel_checkFlow_164 : decode b_RangeTellerModel_checkFlow 164 = .ok (.invokevirtual 211, 3) := by decide +kernel
theorem d_RangeTellerModel_checkFlow_167 : decode b_RangeTellerModel_checkFlow 167 = .ok (.istore 4, 2) := by decide +kernel
theorem d_RangeTellerModel_checkFlow_169 : decode b_RangeTellerModel_checkFlow 169 = .ok (.iload 4, 2) := by decide +kernel
theorem d_RangeTellerModel_checkFlow_171 : decode b_RangeTellerModel_checkFlow 171 = .ok (.ifCond .lt 23, 3) := by decide +kernel
theorem d_RangeTellerModel_checkFlow_194 : decode b_RangeTellerModel_checkFlow 194 = .ok (.iconst 0, 1) := by decide +kernel
theorem d_RangeTellerModel_checkFlow_195 : decode b_RangeTellerModel_checkFlow 195 = .ok (.ireturn, 1) := by decide +kernel
theorem d_RangeTellerModel_checkFlow_174 : decode b_RangeTellerModel_checkFlow 174 = .ok (.aload_n 0, 1) := by decide +kernel
theorem d_RangeTellerModel_checkFlow_175 : decode b_RangeTellerModel_checkFlow 175 = .ok (.iload 4, 2) := by decide +kernel
theorem d_RangeTellerModel_checkFlow_177 : decode b_RangeTellerModel_checkFlow 177 = .ok (.invokevirtual 194, 3) := by decide +kernel
theorem d_RangeTellerModel_checkFlow_180 : decode b_RangeTellerModel_checkFlow 180 = .ok (.ifCond .eq 14, 3) := by decide +kernel
theorem d_RangeTellerModel_checkFlow_183 : decode b_RangeTellerModel_checkFlow 183 = .ok (.aload_n 0, 1) := by decide +kernel
theorem d_RangeTellerModel_checkFlow_184 : decode b_RangeTellerModel_checkFlow 184 = .ok (.invokevirtual 200, 3) := by decide +kernel
theorem d_RangeTellerModel_checkFlow_187 : decode b_RangeTellerModel_checkFlow 187 = .ok (.ifCond .eq 7, 3) := by decide +kernel
theorem d_RangeTellerModel_checkFlow_190 : decode b_RangeTellerModel_checkFlow 190 = .ok (.iconst 1, 1) := by decide +kernel
theorem d_RangeTellerModel_checkFlow_191 : decode b_RangeTellerModel_checkFlow 191 = .ok (.goto 4, 3) := by decide +kernel
theorem d_RangeTellerModel_checkFlow_196 : decode b_RangeTellerModel_checkFlow 196 = .ok (.aload_n 0, 1) := by decide +kernel
theorem d_RangeTellerModel_checkFlow_197 : decode b_RangeTellerModel_checkFlow 197 = .ok (.iconst 1, 1) := by decide +kernel
theorem d_RangeTellerModel_checkFlow_198 : decode b_RangeTellerModel_checkFlow 198 = .ok (.invokevirtual 194, 3) := by decide +kernel
theorem d_RangeTellerModel_checkFlow_201 : decode b_RangeTellerModel_checkFlow 201 = .ok (.istore 4, 2) := by decide +kernel
theorem d_RangeTellerModel_checkFlow_203 : decode b_RangeTellerModel_checkFlow 203 = .ok (.aload_n 0, 1) := by decide +kernel
theorem d_RangeTellerModel_checkFlow_204 : decode b_RangeTellerModel_checkFlow 204 = .ok (.iload_n 1, 1) := by decide +kernel
theorem d_RangeTellerModel_checkFlow_205 : decode b_RangeTellerModel_checkFlow 205 = .ok (.iload_n 2, 1) := by decide +kernel
theorem d_RangeTellerModel_checkFlow_206 : decode b_RangeTellerModel_checkFlow 206 = .ok (.invokevirtual 211, 3) := by decide +kernel
theorem d_RangeTellerModel_checkFlow_209 : decode b_RangeTellerModel_checkFlow 209 = .ok (.istore 5, 2) := by decide +kernel
theorem d_RangeTellerModel_checkFlow_211 : decode b_RangeTellerModel_checkFlow 211 = .ok (.iload 4, 2) := by decide +kernel
theorem d_RangeTellerModel_checkFlow_213 : decode b_RangeTellerModel_checkFlow 213 = .ok (.ifCond .eq 30, 3) := by decide +kernel
theorem d_RangeTellerModel_checkFlow_243 : decode b_RangeTellerModel_checkFlow 243 = .ok (.iconst 0, 1) := by decide +kernel
theorem d_RangeTellerModel_checkFlow_244 : decode b_RangeTellerModel_checkFlow 244 = .ok (.ireturn, 1) := by decide +kernel
theorem d_RangeTellerModel_checkFlow_216 : decode b_RangeTellerModel_checkFlow 216 = .ok (.iload 5, 2) := by decide +kernel
theorem d_RangeTellerModel_checkFlow_218 : decode b_RangeTellerModel_checkFlow 218 = .ok (.ifCond .lt 25, 3) := by decide +kernel
theorem d_RangeTellerModel_checkFlow_221 : decode b_RangeTellerModel_checkFlow 221 = .ok (.aload_n 0, 1) := by decide +kernel
theorem d_RangeTellerModel_checkFlow_222 : decode b_RangeTellerModel_checkFlow 222 = .ok (.iload 5, 2) := by decide +kernel
theorem d_RangeTellerModel_checkFlow_224 : decode b_RangeTellerModel_checkFlow 224 = .ok (.invokevirtual 194, 3) := by decide +kernel
theorem d_RangeTellerModel_checkFlow_227 : decode b_RangeTellerModel_checkFlow 227 = .ok (.ifCond .eq 16, 3) := by decide +kernel
theorem d_RangeTellerModel_checkFlow_230 : decode b_RangeTellerModel_checkFlow 230 = .ok (.aload_n 0, 1) := by decide +kernel
theorem d_RangeTellerModel_checkFlow_231 : decode b_RangeTellerModel_checkFlow 231 = .ok (.iload 5, 2) := by decide +kernel
theorem d_RangeTellerModel_checkFlow_233 : decode b_RangeTellerModel_checkFlow 233 = .ok (.invokevirtual 197, 3) := by decide +kernel
theorem d_RangeTellerModel_checkFlow_236 : decode b_RangeTellerModel_checkFlow 236 = .ok (.ifCond .eq 7, 3) := by decide +kernel
theorem d_RangeTellerModel_checkFlow_239 : decode b_RangeTellerModel_checkFlow 239 = .ok (.iconst 1, 1) := by decide +kernel
theorem d_RangeTellerModel_checkFlow_240 : decode b_RangeTellerModel_checkFlow 240 = .ok (.goto 4, 3) := by decide +kernel
theorem d_RangeTellerModel_checkFlow_245 : decode b_RangeTellerModel_checkFlow 245 = .ok (.aload_n 0, 1) := by decide +kernel
theorem d_RangeTellerModel_checkFlow_246 : decode b_RangeTellerModel_checkFlow 246 = .ok (.getfield 35, 3) := by decide +kernel
theorem d_RangeTellerModel_checkFlow_249 : decode b_RangeTellerModel_checkFlow 249 = .ok (.iload_n 1, 1) := by decide +kernel
theorem d_RangeTellerModel_checkFlow_250 : decode b_RangeTellerModel_checkFlow 250 = .ok (.iconst (-1), 1) := by decide +kernel
theorem d_RangeTellerModel_checkFlow_251 : decode b_RangeTellerModel_checkFlow 251 = .ok (.iastore, 1) := by decide +kernel
theorem d_RangeTellerModel_checkFlow_252 : decode b_RangeTellerModel_checkFlow 252 = .ok (.aload_n 0, 1) := by decide +kernel
theorem d_RangeTellerModel_checkFlow_253 : decode b_RangeTellerModel_checkFlow 253 = .ok (.getfield 38, 3) := by decide +kernel
theorem d_RangeTellerModel_checkFlow_256 : decode b_RangeTellerModel_checkFlow 256 = .ok (.iload_n 1, 1) := by decide +kernel
theorem d_RangeTellerModel_checkFlow_257 : decode b_RangeTellerModel_checkFlow 257 = .ok (.iconst 0, 1) := by decide +kernel
theorem d_RangeTellerModel_checkFlow_258 : decode b_RangeTellerModel_checkFlow 258 = .ok (.iastore, 1) := by decide +kernel
theorem d_RangeTellerModel_checkFlow_259 : decode b_RangeTellerModel_checkFlow 259 = .ok (.aload_n 0, 1) := by decide +kernel
theorem d_RangeTellerModel_checkFlow_260 : decode b_RangeTellerModel_checkFlow 260 = .ok (.getfield 41, 3) := by decide +kernel
theorem d_RangeTellerModel_checkFlow_263 : decode b_RangeTellerModel_checkFlow 263 = .ok (.iload_n 1, 1) := by decide +kernel
theorem d_RangeTellerModel_checkFlow_264 : decode b_RangeTellerModel_checkFlow 264 = .ok (.aload_n 0, 1) := by decide +kernel
theorem d_RangeTellerModel_checkFlow_265 : decode b_RangeTellerModel_checkFlow 265 = .ok (.getfield 50, 3) := by decide +kernel
theorem d_RangeTellerModel_checkFlow_268 : decode b_RangeTellerModel_checkFlow 268 = .ok (.iload_n 3, 1) := by decide +kernel
theorem d_RangeTellerModel_checkFlow_269 : decode b_RangeTellerModel_checkFlow 269 = .ok (.iaload, 1) := by decide +kernel
theorem d_RangeTellerModel_checkFlow_270 : decode b_RangeTellerModel_checkFlow 270 = .ok (.iastore, 1) := by decide +kernel
theorem d_RangeTellerModel_checkFlow_271 : decode b_RangeTellerModel_checkFlow 271 = .ok (.aload_n 0, 1) := by decide +kernel
theorem d_RangeTellerModel_checkFlow_272 : decode b_RangeTellerModel_checkFlow 272 = .ok (.aload_n 0, 1) := by decide +kernel
theorem d_RangeTellerModel_checkFlow_273 : decode b_RangeTellerModel_checkFlow 273 = .ok (.getfield 50, 3) := by decide +kernel
theorem d_RangeTellerModel_checkFlow_276 : decode b_RangeTellerModel_checkFlow 276 = .ok (.iload_n 3, 1) := by decide +kernel
theorem d_RangeTellerModel_checkFlow_277 : decode b_RangeTellerModel_checkFlow 277 = .ok (.iaload, 1) := by decide +kernel
theorem d_RangeTellerModel_checkFlow_278 : decode b_RangeTellerModel_checkFlow 278 = .ok (.invokevirtual 194, 3) := by decide +kernel
theorem d_RangeTellerModel_checkFlow_281 : decode b_RangeTellerModel_checkFlow 281 = .ok (.ifCond .eq 14, 3) := by decide +kernel
theorem d_RangeTellerModel_checkFlow_295 : decode b_RangeTellerModel_checkFlow 295 = .ok (.iconst 0, 1) := by decide +kernel
theorem d_RangeTellerModel_checkFlow_296 : decode b_RangeTellerModel_checkFlow 296 = .ok (.ireturn, 1) := by decide +kernel
theorem d_RangeTellerModel_checkFlow_284 : decode b_RangeTellerModel_checkFlow 284 = .ok (.aload_n 0, 1) := by decide +kernel
theorem d_RangeTellerModel_checkFlow_285 : decode b_RangeTellerModel_checkFlow 285 = .ok (.invokevirtual 200, 3) := by decide +kernel
theorem d_RangeTellerModel_checkFlow_288 : decode b_RangeTellerModel_checkFlow 288 = .ok (.ifCond .eq 7, 3) := by decide +kernel
theorem d_RangeTellerModel_checkFlow_291 : decode b_RangeTellerModel_checkFlow 291 = .ok (.iconst 1, 1) := by decide +kernel
theorem d_RangeTellerModel_checkFlow_292 : decode b_RangeTellerModel_checkFlow 292 = .ok (.goto 4, 3) := by decide +kernel
theorem d_RangeTellerModel_checkFlow_297 : decode b_RangeTellerModel_checkFlow 297 = .ok (.iload_n 2, 1) := by decide +kernel
theorem d_RangeTellerModel_checkFlow_298 : decode b_RangeTellerModel_checkFlow 298 = .ok (.aload_n 0, 1) := by decide +kernel
theorem d_RangeTellerModel_checkFlow_299 : decode b_RangeTellerModel_checkFlow 299 = .ok (.getfield 185, 3) := by decide +kernel
theorem d_RangeTellerModel_checkFlow_302 : decode b_RangeTellerModel_checkFlow 302 = .ok (.if_icmp .ge 33, 3) := by decide +kernel
theorem d_RangeTellerModel_checkFlow_335 : decode b_RangeTellerModel_checkFlow 335 = .ok (.iconst 0, 1) := by decide +kernel
theorem d_RangeTellerModel_checkFlow_336 : decode b_RangeTellerModel_checkFlow 336 = .ok (.ireturn, 1) := by decide +kernel
theorem d_RangeTellerModel_checkFlow_305 : decode b_RangeTellerModel_checkFlow 305 = .ok (.aload_n 0, 1) := by decide +kernel
theorem d_RangeTellerModel_checkFlow_306 : decode b_RangeTellerModel_checkFlow 306 = .ok (.aload_n 0, 1) := by decide +kernel
theorem d_RangeTellerModel_checkFlow_307 : decode b_RangeTellerModel_checkFlow 307 = .ok (.getfield 44, 3) := by decide +kernel
theorem d_RangeTellerModel_checkFlow_310 : decode b_RangeTellerModel_checkFlow 310 = .ok (.iload_n 2, 1) := by decide +kernel
theorem d_RangeTellerModel_checkFlow_311 : decode b_RangeTellerModel_checkFlow 311 = .ok (.iaload, 1) := by decide +kernel
theorem d_RangeTellerModel_checkFlow_312 : decode b_RangeTellerModel_checkFlow 312 = .ok (.invokevirtual 194, 3) := by decide +kernel
theorem d_RangeTellerModel_checkFlow_315 : decode b_RangeTellerModel_checkFlow 315 = .ok (.ifCond .eq 20, 3) := by decide +kernel
theorem d_RangeTellerModel_checkFlow_318 : decode b_RangeTellerModel_checkFlow 318 = .ok (.aload_n 0, 1) := by decide +kernel
theorem d_RangeTellerModel_checkFlow_319 : decode b_RangeTellerModel_checkFlow 319 = .ok (.aload_n 0, 1) := by decide +kernel
theorem d_RangeTellerModel_checkFlow_320 : decode b_RangeTellerModel_checkFlow 320 = .ok (.getfield 50, 3) := by decide +kernel
theorem d_RangeTellerModel_checkFlow_323 : decode b_RangeTellerModel_checkFlow 323 = .ok (.iload_n 2, 1) := by decide +kernel
theorem d_RangeTellerModel_checkFlow_324 : decode b_RangeTellerModel_checkFlow 324 = .ok (.iaload, 1) := by decide +kernel
theorem d_RangeTellerModel_checkFlow_325 : decode b_RangeTellerModel_checkFlow 325 = .ok (.invokevirtual 197, 3) := by decide +kernel
theorem d_RangeTellerModel_checkFlow_328 : decode b_RangeTellerModel_checkFlow 328 = .ok (.ifCond .eq 7, 3) := by decide +kernel
theorem d_RangeTellerModel_checkFlow_331 : decode b_RangeTellerModel_checkFlow 331 = .ok (.iconst 1, 1) := by decide +kernel
theorem d_RangeTellerModel_checkFlow_332 : decode b_RangeTellerModel_checkFlow 332 = .ok (.goto 4, 3) := by decide +kernel
theorem d_RangeTellerModel_takes_28 : decode b_RangeTellerModel_takes 28 = .ok (.iload_n 0, 1) := by decide +kernel
theorem d_RangeTellerModel_takes_29 : decode b_RangeTellerModel_takes 29 = .ok (.bipush 10, 2) := by decide +kernel
theorem d_RangeTellerModel_takes_31 : decode b_RangeTellerModel_takes 31 = .ok (.if_icmp .eq 33, 3) := by decide +kernel
theorem d_RangeTellerModel_takes_64 : decode b_RangeTellerModel_takes 64 = .ok (.iconst 1, 1) := by decide +kernel
theorem d_RangeTellerModel_takes_65 : decode b_RangeTellerModel_takes 65 = .ok (.goto 4, 3) := by decide +kernel
theorem d_RangeTellerModel_takes_69 : decode b_RangeTellerModel_takes 69 = .ok (.ireturn, 1) := by decide +kernel
theorem d_RangeTellerModel_takes_34 : decode b_RangeTellerModel_takes 34 = .ok (.iload_n 0, 1) := by decide +kernel
theorem d_RangeTellerModel_takes_35 : decode b_RangeTellerModel_takes 35 = .ok (.bipush 13, 2) := by decide +kernel
theorem d_RangeTellerModel_takes_37 : decode b_RangeTellerModel_takes 37 = .ok (.if_icmp .eq 27, 3) := by decide +kernel
theorem d_RangeTellerModel_takes_40 : decode b_RangeTellerModel_takes 40 = .ok (.iload_n 0, 1) := by decide +kernel
theorem d_RangeTellerModel_takes_41 : decode b_RangeTellerModel_takes 41 = .ok (.bipush 14, 2) := by decide +kernel
theorem d_RangeTellerModel_takes_43 : decode b_RangeTellerModel_takes 43 = .ok (.if_icmp .eq 21, 3) := by decide +kernel
theorem d_RangeTellerModel_takes_46 : decode b_RangeTellerModel_takes 46 = .ok (.iload_n 0, 1) := by decide +kernel
theorem d_RangeTellerModel_takes_47 : decode b_RangeTellerModel_takes 47 = .ok (.bipush 15, 2) := by decide +kernel
theorem d_RangeTellerModel_takes_49 : decode b_RangeTellerModel_takes 49 = .ok (.if_icmp .eq 15, 3) := by decide +kernel
theorem d_RangeTellerModel_takes_52 : decode b_RangeTellerModel_takes 52 = .ok (.iload_n 0, 1) := by decide +kernel
theorem d_RangeTellerModel_takes_53 : decode b_RangeTellerModel_takes 53 = .ok (.bipush 18, 2) := by decide +kernel
theorem d_RangeTellerModel_takes_55 : decode b_RangeTellerModel_takes 55 = .ok (.if_icmp .eq 9, 3) := by decide +kernel
theorem d_RangeTellerModel_takes_58 : decode b_RangeTellerModel_takes 58 = .ok (.iload_n 0, 1) := by decide +kernel
theorem d_RangeTellerModel_takes_59 : decode b_RangeTellerModel_takes 59 = .ok (.bipush 28, 2) := by decide +kernel
theorem d_RangeTellerModel_takes_61 : decode b_RangeTellerModel_takes 61 = .ok (.if_icmp .ne 7, 3) := by decide +kernel
theorem d_RangeTellerModel_takes_68 : decode b_RangeTellerModel_takes 68 = .ok (.iconst 0, 1) := by decide +kernel
theorem d_RangeTellerModel_takes_0 : decode b_RangeTellerModel_takes 0 = .ok (.iload_n 0, 1) := by decide +kernel
theorem d_RangeTellerModel_takes_1 : decode b_RangeTellerModel_takes 1 = .ok (.bipush 11, 2) := by decide +kernel
theorem d_RangeTellerModel_takes_3 : decode b_RangeTellerModel_takes 3 = .ok (.if_icmp .ne 5, 3) := by decide +kernel
theorem d_RangeTellerModel_takes_8 : decode b_RangeTellerModel_takes 8 = .ok (.iload_n 0, 1) := by decide +kernel
theorem d_RangeTellerModel_takes_9 : decode b_RangeTellerModel_takes 9 = .ok (.bipush 16, 2) := by decide +kernel
theorem d_RangeTellerModel_takes_11 : decode b_RangeTellerModel_takes 11 = .ok (.if_icmp .eq 15, 3) := by decide +kernel
theorem d_RangeTellerModel_takes_26 : decode b_RangeTellerModel_takes 26 = .ok (.iconst 2, 1) := by decide +kernel
theorem d_RangeTellerModel_takes_27 : decode b_RangeTellerModel_takes 27 = .ok (.ireturn, 1) := by decide +kernel
theorem d_RangeTellerModel_takes_14 : decode b_RangeTellerModel_takes 14 = .ok (.iload_n 0, 1) := by decide +kernel
theorem d_RangeTellerModel_takes_15 : decode b_RangeTellerModel_takes 15 = .ok (.bipush 18, 2) := by decide +kernel
theorem d_RangeTellerModel_takes_17 : decode b_RangeTellerModel_takes 17 = .ok (.if_icmp .le 11, 3) := by decide +kernel
theorem d_RangeTellerModel_takes_20 : decode b_RangeTellerModel_takes 20 = .ok (.iload_n 0, 1) := by decide +kernel
theorem d_RangeTellerModel_takes_21 : decode b_RangeTellerModel_takes 21 = .ok (.bipush 27, 2) := by decide +kernel
theorem d_RangeTellerModel_takes_23 : decode b_RangeTellerModel_takes 23 = .ok (.if_icmp .ge 5, 3) := by decide +kernel
theorem d_RangeTellerModel_takes_6 : decode b_RangeTellerModel_takes 6 = .ok (.iconst 3, 1) := by decide +kernel
theorem d_RangeTellerModel_takes_7 : decode b_RangeTellerModel_takes 7 = .ok (.ireturn, 1) := by decide +kernel
theorem d_RangeTellerModel_checkOne_116 : decode b_RangeTellerModel_checkOne 116 = .ok (.invokevirtual 197, 3) := by decide +kernel
theorem d_RangeTellerModel_checkOne_119 : decode b_RangeTellerModel_checkOne 119 = .ok (.ifCond .eq 7, 3) := by decide +kernel
theorem d_RangeTellerModel_checkOne_126 : decode b_RangeTellerModel_checkOne 126 = .ok (.iconst 0, 1) := by decide +kernel
theorem d_RangeTellerModel_checkOne_127 : decode b_RangeTellerModel_checkOne 127 = .ok (.ireturn, 1) := by decide +kernel
theorem d_RangeTellerModel_checkOne_122 : decode b_RangeTellerModel_checkOne 122 = .ok (.iconst 1, 1) := by decide +kernel
theorem d_RangeTellerModel_checkOne_123 : decode b_RangeTellerModel_checkOne 123 = .ok (.goto 4, 3) := by decide +kernel
theorem d_RangeTellerModel_checkOne_94 : decode b_RangeTellerModel_checkOne 94 = .ok (.istore_n 3, 1) := by decide +kernel
theorem d_RangeTellerModel_checkOne_95 : decode b_RangeTellerModel_checkOne 95 = .ok (.aload_n 0, 1) := by decide +kernel
theorem d_RangeTellerModel_checkOne_96 : decode b_RangeTellerModel_checkOne 96 = .ok (.iload_n 2, 1) := by decide +kernel
theorem d_RangeTellerModel_checkOne_97 : decode b_RangeTellerModel_checkOne 97 = .ok (.invokestatic 217, 3) := by decide +kernel
theorem d_RangeTellerModel_checkOne_100 : decode b_RangeTellerModel_checkOne 100 = .ok (.invokevirtual 194, 3) := by decide +kernel
theorem d_RangeTellerModel_checkOne_103 : decode b_RangeTellerModel_checkOne 103 = .ok (.ifCond .eq 23, 3) := by decide +kernel
theorem d_RangeTellerModel_checkOne_106 : decode b_RangeTellerModel_checkOne 106 = .ok (.aload_n 0, 1) := by decide +kernel
theorem d_RangeTellerModel_checkOne_107 : decode b_RangeTellerModel_checkOne 107 = .ok (.iload_n 3, 1) := by decide +kernel
theorem d_RangeTellerModel_checkOne_108 : decode b_RangeTellerModel_checkOne 108 = .ok (.ifCond .eq 7, 3) := by decide +kernel
theorem d_RangeTellerModel_checkOne_115 : decode b_RangeTellerModel_checkOne 115 = .ok (.iconst 0, 1) := by decide +kernel
theorem d_RangeTellerModel_checkOne_111 : decode b_RangeTellerModel_checkOne 111 = .ok (.iconst 1, 1) := by decide +kernel
theorem d_RangeTellerModel_checkOne_112 : decode b_RangeTellerModel_checkOne 112 = .ok (.goto 4, 3) := by decide +kernel
theorem d_RangeTellerModel_checkOne_93 : decode b_RangeTellerModel_checkOne 93 = .ok (.iconst 0, 1) := by decide +kernel
theorem d_RangeTellerModel_checkOne_65 : decode b_RangeTellerModel_checkOne 65 = .ok (.iload_n 2, 1) := by decide +kernel
theorem d_RangeTellerModel_checkOne_66 : decode b_RangeTellerModel_checkOne 66 = .ok (.bipush 10, 2) := by decide +kernel
theorem d_RangeTellerModel_checkOne_68 : decode b_RangeTellerModel_checkOne 68 = .ok (.if_icmp .eq 25, 3) := by decide +kernel
theorem d_RangeTellerModel_checkOne_71 : decode b_RangeTellerModel_checkOne 71 = .ok (.iload_n 2, 1) := by decide +kernel
theorem d_RangeTellerModel_checkOne_72 : decode b_RangeTellerModel_checkOne 72 = .ok (.bipush 13, 2) := by decide +kernel
theorem d_RangeTellerModel_checkOne_74 : decode b_RangeTellerModel_checkOne 74 = .ok (.if_icmp .eq 19, 3) := by decide +kernel
theorem d_RangeTellerModel_checkOne_77 : decode b_RangeTellerModel_checkOne 77 = .ok (.iload_n 2, 1) := by decide +kernel
theorem d_RangeTellerModel_checkOne_78 : decode b_RangeTellerModel_checkOne 78 = .ok (.bipush 16, 2) := by decide +kernel
theorem d_RangeTellerModel_checkOne_80 : decode b_RangeTellerModel_checkOne 80 = .ok (.if_icmp .eq 13, 3) := by decide +kernel
theorem d_RangeTellerModel_checkOne_83 : decode b_RangeTellerModel_checkOne 83 = .ok (.iload_n 2, 1) := by decide +kernel
theorem d_RangeTellerModel_checkOne_84 : decode b_RangeTellerModel_checkOne 84 = .ok (.bipush 28, 2) := by decide +kernel
theorem d_RangeTellerModel_checkOne_86 : decode b_RangeTellerModel_checkOne 86 = .ok (.if_icmp .eq 7, 3) := by decide +kernel
theorem d_RangeTellerModel_checkOne_89 : decode b_RangeTellerModel_checkOne 89 = .ok (.iconst 1, 1) := by decide +kernel
theorem d_RangeTellerModel_checkOne_90 : decode b_RangeTellerModel_checkOne 90 = .ok (.goto 4, 3) := by decide +kernel
theorem d_RangeTellerModel_checkOne_0 : decode b_RangeTellerModel_checkOne 0 = .ok (.aload_n 0, 1) := by decide +kernel
theorem d_RangeTellerModel_checkOne_1 : decode b_RangeTellerModel_checkOne 1 = .ok (.getfield 17, 3) := by decide +kernel
theorem d_RangeTellerModel_checkOne_4 : decode b_RangeTellerModel_checkOne 4 = .ok (.iload_n 1, 1) := by decide +kernel
theorem d_RangeTellerModel_checkOne_5 : decode b_RangeTellerModel_checkOne 5 = .ok (.iaload, 1) := by decide +kernel
theorem d_RangeTellerModel_checkOne_6 : decode b_RangeTellerModel_checkOne 6 = .ok (.istore_n 2, 1) := by decide +kernel
theorem d_RangeTellerModel_checkOne_7 : decode b_RangeTellerModel_checkOne 7 = .ok (.iload_n 2, 1) := by decide +kernel
theorem d_RangeTellerModel_checkOne_8 : decode b_RangeTellerModel_checkOne 8 = .ok (.bipush 10, 2) := by decide +kernel
theorem d_RangeTellerModel_checkOne_10 : decode b_RangeTellerModel_checkOne 10 = .ok (.if_icmp .ge 9, 3) := by decide +kernel
theorem d_RangeTellerModel_checkOne_19 : decode b_RangeTellerModel_checkOne 19 = .ok (.iload_n 2, 1) := by decide +kernel
theorem d_RangeTellerModel_checkOne_20 : decode b_RangeTellerModel_checkOne 20 = .ok (.bipush 11, 2) := by decide +kernel
theorem d_RangeTellerModel_checkOne_22 : decode b_RangeTellerModel_checkOne 22 = .ok (.if_icmp .le 43, 3) := by decide +kernel
theorem d_RangeTellerModel_checkOne_25 : decode b_RangeTellerModel_checkOne 25 = .ok (.iload_n 2, 1) := by decide +kernel
theorem d_RangeTellerModel_checkOne_26 : decode b_RangeTellerModel_checkOne 26 = .ok (.bipush 15, 2) := by decide +kernel
theorem d_RangeTellerModel_checkOne_28 : decode b_RangeTellerModel_checkOne 28 = .ok (.if_icmp .ge 37, 3) := by decide +kernel
theorem d_RangeTellerModel_checkOne_31 : decode b_RangeTellerModel_checkOne 31 = .ok (.aload_n 0, 1) := by decide +kernel
theorem d_RangeTellerModel_checkOne_32 : decode b_RangeTellerModel_checkOne 32 = .ok (.getfield 20, 3) := by decide +kernel
theorem d_RangeTellerModel_checkOne_35 : decode b_RangeTellerModel_checkOne 35 = .ok (.iload_n 1, 1) := by decide +kernel
theorem d_RangeTellerModel_checkOne_36 : decode b_RangeTellerModel_checkOne 36 = .ok (.iaload, 1) := by decide +kernel
theorem d_RangeTellerModel_checkOne_37 : decode b_RangeTellerModel_checkOne 37 = .ok (.aload_n 0, 1) := by decide +kernel
theorem d_RangeTellerModel_checkOne_38 : decode b_RangeTellerModel_checkOne 38 = .ok (.getfield 44, 3) := by decide +kernel
theorem d_RangeTellerModel_checkOne_41 : decode b_RangeTellerModel_checkOne 41 = .ok (.aload_n 0, 1) := by decide +kernel
theorem d_RangeTellerModel_checkOne_42 : decode b_RangeTellerModel_checkOne 42 = .ok (.getfield 23, 3) := by decide +kernel
theorem d_RangeTellerModel_checkOne_45 : decode b_RangeTellerModel_checkOne 45 = .ok (.iload_n 1, 1) := by decide +kernel
theorem d_RangeTellerModel_checkOne_46 : decode b_RangeTellerModel_checkOne 46 = .ok (.iaload, 1) := by decide +kernel
theorem d_RangeTellerModel_checkOne_47 : decode b_RangeTellerModel_checkOne 47 = .ok (.iaload, 1) := by decide +kernel
theorem d_RangeTellerModel_checkOne_48 : decode b_RangeTellerModel_checkOne 48 = .ok (.aload_n 0, 1) := by decide +kernel
theorem d_RangeTellerModel_checkOne_49 : decode b_RangeTellerModel_checkOne 49 = .ok (.getfield 47, 3) := by decide +kernel
theorem d_RangeTellerModel_checkOne_52 : decode b_RangeTellerModel_checkOne 52 = .ok (.aload_n 0, 1) := by decide +kernel
theorem d_RangeTellerModel_checkOne_53 : decode b_RangeTellerModel_checkOne 53 = .ok (.getfield 23, 3) := by decide +kernel
theorem d_RangeTellerModel_checkOne_56 : decode b_RangeTellerModel_checkOne 56 = .ok (.iload_n 1, 1) := by decide +kernel
theorem d_RangeTellerModel_checkOne_57 : decode b_RangeTellerModel_checkOne 57 = .ok (.iaload, 1) := by decide +kernel
theorem d_RangeTellerModel_checkOne_58 : decode b_RangeTellerModel_checkOne 58 = .ok (.iaload, 1) := by decide +kernel
theorem d_RangeTellerModel_checkOne_59 : decode b_RangeTellerModel_checkOne 59 = .ok (.iadd, 1) := by decide +kernel
theorem d_RangeTellerModel_checkOne_60 : decode b_RangeTellerModel_checkOne 60 = .ok (.if_icmp .lt 5, 3) := by decide +kernel
theorem d_RangeTellerModel_checkOne_63 : decode b_RangeTellerModel_checkOne 63 = .ok (.iconst 0, 1) := by decide +kernel
theorem d_RangeTellerModel_checkOne_64 : decode b_RangeTellerModel_checkOne 64 = .ok (.ireturn, 1) := by decide +kernel
theorem d_RangeTellerModel_checkOne_13 : decode b_RangeTellerModel_checkOne 13 = .ok (.aload_n 0, 1) := by decide +kernel
theorem d_RangeTellerModel_checkOne_14 : decode b_RangeTellerModel_checkOne 14 = .ok (.iload_n 1, 1) := by decide +kernel
theorem d_RangeTellerModel_checkOne_15 : decode b_RangeTellerModel_checkOne 15 = .ok (.invokevirtual 214, 3) := by decide +kernel
theorem d_RangeTellerModel_checkOne_18 : decode b_RangeTellerModel_checkOne 18 = .ok (.ireturn, 1) := by decide +kernel
theorem d_RangeTellerModel_check_51 : decode b_RangeTellerModel_check 51 = .ok (.aload_n 0, 1) := by decide +kernel
theorem d_RangeTellerModel_check_52 : decode b_RangeTellerModel_check 52 = .ok (.getfield 32, 3) := by decide +kernel
theorem d_RangeTellerModel_check_55 : decode b_RangeTellerModel_check 55 = .ok (.iload_n 1, 1) := by decide +kernel
theorem d_RangeTellerModel_check_56 : decode b_RangeTellerModel_check 56 = .ok (.aload_n 0, 1) := by decide +kernel
theorem d_RangeTellerModel_check_57 : decode b_RangeTellerModel_check 57 = .ok (.getfield 191, 3) := by decide +kernel
theorem d_RangeTellerModel_check_60 : decode b_RangeTellerModel_check 60 = .ok (.iastore, 1) := by decide +kernel
theorem d_RangeTellerModel_check_61 : decode b_RangeTellerModel_check 61 = .ok (.aload_n 0, 1) := by decide +kernel
theorem d_RangeTellerModel_check_62 : decode b_RangeTellerModel_check 62 = .ok (.iload_n 1, 1) := by decide +kernel
theorem d_RangeTellerModel_check_63 : decode b_RangeTellerModel_check 63 = .ok (.invokevirtual 221, 3) := by decide +kernel
theorem d_RangeTellerModel_check_66 : decode b_RangeTellerModel_check 66 = .ok (.ifCond .ne 10, 3) := by decide +kernel
theorem d_RangeTellerModel_check_76 : decode b_RangeTellerModel_check 76 = .ok (.iinc 1 1, 3) := by decide +kernel
theorem d_RangeTellerModel_check_79 : decode b_RangeTellerModel_check 79 = .ok (.goto (-77), 3) := by decide +kernel
theorem d_RangeTellerModel_check_69 : decode b_RangeTellerModel_check 69 = .ok (.aload_n 0, 1) := by decide +kernel
theorem d_RangeTellerModel_check_70 : decode b_RangeTellerModel_check 70 = .ok (.iload_n 1, 1) := by decide +kernel
theorem d_RangeTellerModel_check_71 : decode b_RangeTellerModel_check 71 = .ok (.putfield 13, 3) := by decide +kernel
theorem d_RangeTellerModel_check_74 : decode b_RangeTellerModel_check 74 = .ok (.iconst 0, 1) := by decide +kernel
theorem d_RangeTellerModel_check_75 : decode b_RangeTellerModel_check 75 = .ok (.ireturn, 1) := by decide +kernel
theorem d_RangeTellerModel_check_2 : decode b_RangeTellerModel_check 2 = .ok (.iload_n 1, 1) := by decide +kernel
theorem d_RangeTellerModel_check_3 : decode b_RangeTellerModel_check 3 = .ok (.aload_n 0, 1) := by decide +kernel
theorem d_RangeTellerModel_check_4 : decode b_RangeTellerModel_check 4 = .ok (.getfield 171, 3) := by decide +kernel
theorem d_RangeTellerModel_check_7 : decode b_RangeTellerModel_check 7 = .ok (.if_icmp .ge 75, 3) := by decide +kernel
theorem d_RangeTellerModel_check_82 : decode b_RangeTellerModel_check 82 = .ok (.iconst 1, 1) := by decide +kernel
theorem d_RangeTellerModel_check_83 : decode b_RangeTellerModel_check 83 = .ok (.ireturn, 1) := by decide +kernel
theorem d_RangeTellerModel_check_10 : decode b_RangeTellerModel_check 10 = .ok (.iload_n 1, 1) := by decide +kernel
theorem d_RangeTellerModel_check_11 : decode b_RangeTellerModel_check 11 = .ok (.aload_n 0, 1) := by decide +kernel
theorem d_RangeTellerModel_check_12 : decode b_RangeTellerModel_check 12 = .ok (.getfield 53, 3) := by decide +kernel
theorem d_RangeTellerModel_check_15 : decode b_RangeTellerModel_check 15 = .ok (.aload_n 0, 1) := by decide +kernel
theorem d_RangeTellerModel_check_16 : decode b_RangeTellerModel_check 16 = .ok (.getfield 23, 3) := by decide +kernel
theorem d_RangeTellerModel_check_19 : decode b_RangeTellerModel_check 19 = .ok (.iload_n 1, 1) := by decide +kernel
theorem d_RangeTellerModel_check_20 : decode b_RangeTellerModel_check 20 = .ok (.iaload, 1) := by decide +kernel
theorem d_RangeTellerModel_check_21 : decode b_RangeTellerModel_check 21 = .ok (.iaload, 1) := by decide +kernel
theorem d_RangeTellerModel_check_22 : decode b_RangeTellerModel_check 22 = .ok (.if_icmp .ne 29, 3) := by decide +kernel
theorem d_RangeTellerModel_check_25 : decode b_RangeTellerModel_check 25 = .ok (.aload_n 0, 1) := by decide +kernel
theorem d_RangeTellerModel_check_26 : decode b_RangeTellerModel_check 26 = .ok (.iconst 0, 1) := by decide +kernel
theorem d_RangeTellerModel_check_27 : decode b_RangeTellerModel_check 27 = .ok (.putfield 174, 3) := by decide +kernel
theorem d_RangeTellerModel_check_30 : decode b_RangeTellerModel_check 30 = .ok (.aload_n 0, 1) := by decide +kernel
theorem d_RangeTellerModel_check_31 : decode b_RangeTellerModel_check 31 = .ok (.iconst 0, 1) := by decide +kernel
theorem d_RangeTellerModel_check_32 : decode b_RangeTellerModel_check 32 = .ok (.putfield 191, 3) := by decide +kernel
theorem d_RangeTellerModel_check_35 : decode b_RangeTellerModel_check 35 = .ok (.aload_n 0, 1) := by decide +kernel
theorem d_RangeTellerModel_check_36 : decode b_RangeTellerModel_check 36 = .ok (.iconst (-1), 1) := by decide +kernel
theorem d_RangeTellerModel_check_37 : decode b_RangeTellerModel_check 37 = .ok (.aload_n 0, 1) := by decide +kernel
theorem d_RangeTellerModel_check_38 : decode b_RangeTellerModel_check 38 = .ok (.getfield 50, 3) := by decide +kernel
theorem d_RangeTellerModel_check_41 : decode b_RangeTellerModel_check 41 = .ok (.aload_n 0, 1) := by decide +kernel
theorem d_RangeTellerModel_check_42 : decode b_RangeTellerModel_check 42 = .ok (.getfield 23, 3) := by decide +kernel
theorem d_RangeTellerModel_check_45 : decode b_RangeTellerModel_check 45 = .ok (.iload_n 1, 1) := by decide +kernel
theorem d_RangeTellerModel_check_46 : decode b_RangeTellerModel_check 46 = .ok (.iaload, 1) := by decide +kernel
theorem d_RangeTellerModel_check_47 : decode b_RangeTellerModel_check 47 = .ok (.iaload, 1) := by decide +kernel
theorem d_RangeTellerModel_check_48 : decode b_RangeTellerModel_check 48 = .ok (.invokevirtual 204, 3) := by decide +kernel
theorem d_RangeTellerModel_check_0 : decode b_RangeTellerModel_check 0 = .ok (.iconst 0, 1) := by decide +kernel
theorem d_RangeTellerModel_check_1 : decode b_RangeTellerModel_check 1 = .ok (.istore_n 1, 1) := by decide +kernel
theorem d_RangeTellerModel_clear_65 : decode b_RangeTellerModel_clear 65 = .ok (.iload_n 1, 1) := by decide +kernel
theorem d_RangeTellerModel_clear_66 : decode b_RangeTellerModel_clear 66 = .ok (.iconst 3, 1) := by decide +kernel
theorem d_RangeTellerModel_clear_67 : decode b_RangeTellerModel_clear 67 = .ok (.if_icmp .ge 37, 3) := by decide +kernel
theorem d_RangeTellerModel_clear_104 : decode b_RangeTellerModel_clear 104 = .ok (.return_, 1) := by decide +kernel
theorem d_RangeTellerModel_clear_70 : decode b_RangeTellerModel_clear 70 = .ok (.aload_n 0, 1) := by decide +kernel
theorem d_RangeTellerModel_clear_71 : decode b_RangeTellerModel_clear 71 = .ok (.getfield 123, 3) := by decide +kernel
theorem d_RangeTellerModel_clear_74 : decode b_RangeTellerModel_clear 74 = .ok (.iload_n 1, 1) := by decide +kernel
theorem d_RangeTellerModel_clear_75 : decode b_RangeTellerModel_clear 75 = .ok (.iconst 1, 1) := by decide +kernel
theorem d_RangeTellerModel_clear_76 : decode b_RangeTellerModel_clear 76 = .ok (.iastore, 1) := by decide +kernel
theorem d_RangeTellerModel_clear_77 : decode b_RangeTellerModel_clear 77 = .ok (.aload_n 0, 1) := by decide +kernel
theorem d_RangeTellerModel_clear_78 : decode b_RangeTellerModel_clear 78 = .ok (.getfield 126, 3) := by decide +kernel
theorem d_RangeTellerModel_clear_81 : decode b_RangeTellerModel_clear 81 = .ok (.iload_n 1, 1) := by decide +kernel
theorem d_RangeTellerModel_clear_82 : decode b_RangeTellerModel_clear 82 = .ok (.iconst 0, 1) := by decide +kernel
theorem d_RangeTellerModel_clear_83 : decode b_RangeTellerModel_clear 83 = .ok (.iastore, 1) := by decide +kernel
theorem d_RangeTellerModel_clear_84 : decode b_RangeTellerModel_clear 84 = .ok (.aload_n 0, 1) := by decide +kernel
theorem d_RangeTellerModel_clear_85 : decode b_RangeTellerModel_clear 85 = .ok (.getfield 129, 3) := by decide +kernel
theorem d_RangeTellerModel_clear_88 : decode b_RangeTellerModel_clear 88 = .ok (.iload_n 1, 1) := by decide +kernel
theorem d_RangeTellerModel_clear_89 : decode b_RangeTellerModel_clear 89 = .ok (.iconst 0, 1) := by decide +kernel
theorem d_RangeTellerModel_clear_90 : decode b_RangeTellerModel_clear 90 = .ok (.bastore, 1) := by decide +kernel
theorem d_RangeTellerModel_clear_91 : decode b_RangeTellerModel_clear 91 = .ok (.aload_n 0, 1) := by decide +kernel
theorem d_RangeTellerModel_clear_92 : decode b_RangeTellerModel_clear 92 = .ok (.getfield 132, 3) := by decide +kernel
theorem d_RangeTellerModel_clear_95 : decode b_RangeTellerModel_clear 95 = .ok (.iload_n 1, 1) := by decide +kernel
theorem d_RangeTellerModel_clear_96 : decode b_RangeTellerModel_clear 96 = .ok (.iconst 0, 1) := by decide +kernel
theorem d_RangeTellerModel_clear_97 : decode b_RangeTellerModel_clear 97 = .ok (.bastore, 1) := by decide +kernel
theorem d_RangeTellerModel_clear_98 : decode b_RangeTellerModel_clear 98 = .ok (.iinc 1 1, 3) := by decide +kernel
theorem d_RangeTellerModel_clear_101 : decode b_RangeTellerModel_clear 101 = .ok (.goto (-36), 3) := by decide +kernel
theorem d_RangeTellerModel_clear_30 : decode b_RangeTellerModel_clear 30 = .ok (.iload_n 1, 1) := by decide +kernel
theorem d_RangeTellerModel_clear_31 : decode b_RangeTellerModel_clear 31 = .ok (.bipush 16, 2) := by decide +kernel
theorem d_RangeTellerModel_clear_33 : decode b_RangeTellerModel_clear 33 = .ok (.if_icmp .ge 30, 3) := by decide +kernel
theorem d_RangeTellerModel_clear_63 : decode b_RangeTellerModel_clear 63 = .ok (.iconst 0, 1) := by decide +kernel
theorem d_RangeTellerModel_clear_64 : decode b_RangeTellerModel_clear 64 = .ok (.istore_n 1, 1) := by decide +kernel
theorem d_RangeTellerModel_clear_36 : decode b_RangeTellerModel_clear 36 = .ok (.aload_n 0, 1) := by decide +kernel
theorem d_RangeTellerModel_clear_37 : decode b_RangeTellerModel_clear 37 = .ok (.getfield 114, 3) := by decide +kernel
theorem d_RangeTellerModel_clear_40 : decode b_RangeTellerModel_clear 40 = .ok (.iload_n 1, 1) := by decide +kernel
theorem d_RangeTellerModel_clear_41 : decode b_RangeTellerModel_clear 41 = .ok (.iconst 0, 1) := by decide +kernel
theorem d_RangeTellerModel_clear_42 : decode b_RangeTellerModel_clear 42 = .ok (.iastore, 1) := by decide +kernel
theorem d_RangeTellerModel_clear_43 : decode b_RangeTellerModel_clear 43 = .ok (.aload_n 0, 1) := by decide +kernel
theorem d_RangeTellerModel_clear_44 : decode b_RangeTellerModel_clear 44 = .ok (.getfield 117, 3) := by decide +kernel
theorem d_RangeTellerModel_clear_47 : decode b_RangeTellerModel_clear 47 = .ok (.iload_n 1, 1) := by decide +kernel
theorem d_RangeTellerModel_clear_48 : decode b_RangeTellerModel_clear 48 = .ok (.iconst 0, 1) := by decide +kernel
theorem d_RangeTellerModel_clear_49 : decode b_RangeTellerModel_clear 49 = .ok (.iastore, 1) := by decide +kernel
theorem d_RangeTellerModel_clear_50 : decode b_RangeTellerModel_clear 50 = .ok (.aload_n 0, 1) := by decide +kernel
theorem d_RangeTellerModel_clear_51 : decode b_RangeTellerModel_clear 51 = .ok (.getfield 120, 3) := by decide +kernel
theorem d_RangeTellerModel_clear_54 : decode b_RangeTellerModel_clear 54 = .ok (.iload_n 1, 1) := by decide +kernel
theorem d_RangeTellerModel_clear_55 : decode b_RangeTellerModel_clear 55 = .ok (.iconst 0, 1) := by decide +kernel
theorem d_RangeTellerModel_clear_56 : decode b_RangeTellerModel_clear 56 = .ok (.bastore, 1) := by decide +kernel
theorem d_RangeTellerModel_clear_57 : decode b_RangeTellerModel_clear 57 = .ok (.iinc 1 1, 3) := by decide +kernel
theorem d_RangeTellerModel_clear_60 : decode b_RangeTellerModel_clear 60 = .ok (.goto (-30), 3) := by decide +kernel
theorem d_RangeTellerModel_clear_2 : decode b_RangeTellerModel_clear 2 = .ok (.iload_n 1, 1) := by decide +kernel
theorem d_RangeTellerModel_clear_3 : decode b_RangeTellerModel_clear 3 = .ok (.bipush 101, 2) := by decide +kernel
theorem d_RangeTellerModel_clear_5 : decode b_RangeTellerModel_clear 5 = .ok (.if_icmp .ge 23, 3) := by decide +kernel
theorem d_RangeTellerModel_clear_28 : decode b_RangeTellerModel_clear 28 = .ok (.iconst 0, 1) := by decide +kernel
theorem d_RangeTellerModel_clear_29 : decode b_RangeTellerModel_clear 29 = .ok (.istore_n 1, 1) := by decide +kernel
theorem d_RangeTellerModel_clear_8 : decode b_RangeTellerModel_clear 8 = .ok (.aload_n 0, 1) := by decide +kernel
theorem d_RangeTellerModel_clear_9 : decode b_RangeTellerModel_clear 9 = .ok (.getfield 90, 3) := by decide +kernel
theorem d_RangeTellerModel_clear_12 : decode b_RangeTellerModel_clear 12 = .ok (.iload_n 1, 1) := by decide +kernel
theorem d_RangeTellerModel_clear_13 : decode b_RangeTellerModel_clear 13 = .ok (.iconst 0, 1) := by decide +kernel
theorem d_RangeTellerModel_clear_14 : decode b_RangeTellerModel_clear 14 = .ok (.bastore, 1) := by decide +kernel
theorem d_RangeTellerModel_clear_15 : decode b_RangeTellerModel_clear 15 = .ok (.aload_n 0, 1) := by decide +kernel
theorem d_RangeTellerModel_clear_16 : decode b_RangeTellerModel_clear 16 = .ok (.getfield 93, 3) := by decide +kernel
theorem d_RangeTellerModel_clear_19 : decode b_RangeTellerModel_clear 19 = .ok (.iload_n 1, 1) := by decide +kernel
theorem d_RangeTellerModel_clear_20 : decode b_RangeTellerModel_clear 20 = .ok (.iconst 0, 1) := by decide +kernel
theorem d_RangeTellerModel_clear_21 : decode b_RangeTellerModel_clear 21 = .ok (.bastore, 1) := by decide +kernel
theorem d_RangeTellerModel_clear_22 : decode b_RangeTellerModel_clear 22 = .ok (.iinc 1 1, 3) := by decide +kernel
theorem d_RangeTellerModel_clear_25 : decode b_RangeTellerModel_clear 25 = .ok (.goto (-23), 3) := by decide +kernel
theorem d_RangeTellerModel_clear_0 : decode b_RangeTellerModel_clear 0 = .ok (.iconst 0, 1) := by decide +kernel
theorem d_RangeTellerModel_clear_1 : decode b_RangeTellerModel_clear 1 = .ok (.istore_n 1, 1) := by decide +kernel
theorem d_RangeTellerModel_pass_511 : decode b_RangeTellerModel_pass 511 = .ok (.bastore, 1) := by decide +kernel
theorem d_RangeTellerModel_pass_512 : decode b_RangeTellerModel_pass 512 = .ok (.aload_n 0, 1) := by decide +kernel
theorem d_RangeTellerModel_pass_513 : decode b_RangeTellerModel_pass 513 = .ok (.aload_n 0, 1) := by decide +kernel
theorem d_RangeTellerModel_pass_514 : decode b_RangeTellerModel_pass 514 = .ok (.getfield 291, 3) := by decide +kernel
theorem d_RangeTellerModel_pass_517 : decode b_RangeTellerModel_pass 517 = .ok (.ifCond .ne 7, 3) := by decide +kernel
theorem d_RangeTellerModel_pass_524 : decode b_RangeTellerModel_pass 524 = .ok (.iconst 1, 1) := by decide +kernel
theorem d_RangeTellerModel_pass_525 : decode b_RangeTellerModel_pass 525 = .ok (.goto 4, 3) := by decide +kernel
theorem d_RangeTellerModel_pass_529 : decode b_RangeTellerModel_pass 529 = .ok (.putfield 291, 3) := by decide +kernel
theorem d_RangeTellerModel_pass_532 : decode b_RangeTellerModel_pass 532 = .ok (.return_, 1) := by decide +kernel
theorem d_RangeTellerModel_pass_520 : decode b_RangeTellerModel_pass 520 = .ok (.iload_n 2, 1) := by decide +kernel
theorem d_RangeTellerModel_pass_521 : decode b_RangeTellerModel_pass 521 = .ok (.ifCond .eq 7, 3) := by decide +kernel
theorem d_RangeTellerModel_pass_528 : decode b_RangeTellerModel_pass 528 = .ok (.iconst 0, 1) := by decide +kernel
theorem d_RangeTellerModel_pass_506 : decode b_RangeTellerModel_pass 506 = .ok (.iconst 1, 1) := by decide +kernel
theorem d_RangeTellerModel_pass_507 : decode b_RangeTellerModel_pass 507 = .ok (.goto 4, 3) := by decide +kernel
theorem d_RangeTellerModel_pass_474 : decode b_RangeTellerModel_pass 474 = .ok (.bastore, 1) := by decide +kernel
theorem d_RangeTellerModel_pass_475 : decode b_RangeTellerModel_pass 475 = .ok (.iinc 4 1, 3) := by decide +kernel
theorem d_RangeTellerModel_pass_478 : decode b_RangeTellerModel_pass 478 = .ok (.goto (-223), 3) := by decide +kernel
theorem d_RangeTellerModel_pass_469 : decode b_RangeTellerModel_pass 469 = .ok (.iconst 1, 1) := by decide +kernel
theorem d_RangeTellerModel_pass_470 : decode b_RangeTellerModel_pass 470 = .ok (.goto 4, 3) := by decide +kernel
theorem d_RangeTellerModel_pass_459 : decode b_RangeTellerModel_pass 459 = .ok (.aload_n 0, 1) := by decide +kernel
theorem d_RangeTellerModel_pass_460 : decode b_RangeTellerModel_pass 460 = .ok (.getfield 150, 3) := by decide +kernel
theorem d_RangeTellerModel_pass_463 : decode b_RangeTellerModel_pass 463 = .ok (.iload 4, 2) := by decide +kernel
theorem d_RangeTellerModel_pass_465 : decode b_RangeTellerModel_pass 465 = .ok (.baload, 1) := by decide +kernel
theorem d_RangeTellerModel_pass_466 : decode b_RangeTellerModel_pass 466 = .ok (.ifCond .eq 7, 3) := by decide +kernel
theorem d_RangeTellerModel_pass_473 : decode b_RangeTellerModel_pass 473 = .ok (.iconst 0, 1) := by decide +kernel
theorem d_RangeTellerModel_pass_433 : decode b_RangeTellerModel_pass 433 = .ok (.iastore, 1) := by decide +kernel
theorem d_RangeTellerModel_pass_434 : decode b_RangeTellerModel_pass 434 = .ok (.aload_n 0, 1) := by decide +kernel
theorem d_RangeTellerModel_pass_435 : decode b_RangeTellerModel_pass 435 = .ok (.getfield 111, 3) := by decide +kernel
theorem d_RangeTellerModel_pass_438 : decode b_RangeTellerModel_pass 438 = .ok (.iload 5, 2) := by decide +kernel
theorem d_RangeTellerModel_pass_440 : decode b_RangeTellerModel_pass 440 = .ok (.aload_n 0, 1) := by decide +kernel
theorem d_RangeTellerModel_pass_441 : decode b_RangeTellerModel_pass 441 = .ok (.getfield 90, 3) := by decide +kernel
theorem d_RangeTellerModel_pass_444 : decode b_RangeTellerModel_pass 444 = .ok (.iload_n 1, 1) := by decide +kernel
theorem d_RangeTellerModel_pass_445 : decode b_RangeTellerModel_pass 445 = .ok (.baload, 1) := by decide +kernel
theorem d_RangeTellerModel_pass_446 : decode b_RangeTellerModel_pass 446 = .ok (.ifCond .eq 13, 3) := by decide +kernel
theorem d_RangeTellerModel_pass_449 : decode b_RangeTellerModel_pass 449 = .ok (.aload_n 0, 1) := by decide +kernel
theorem d_RangeTellerModel_pass_450 : decode b_RangeTellerModel_pass 450 = .ok (.getfield 111, 3) := by decide +kernel
theorem d_RangeTellerModel_pass_453 : decode b_RangeTellerModel_pass 453 = .ok (.iload 5, 2) := by decide +kernel
theorem d_RangeTellerModel_pass_455 : decode b_RangeTellerModel_pass 455 = .ok (.baload, 1) := by decide +kernel
theorem d_RangeTellerModel_pass_456 : decode b_RangeTellerModel_pass 456 = .ok (.ifCond .ne 13, 3) := by decide +kernel
theorem d_RangeTellerModel_pass_426 : decode b_RangeTellerModel_pass 426 = .ok (.aload_n 0, 1) := by decide +kernel
theorem d_RangeTellerModel_pass_427 : decode b_RangeTellerModel_pass 427 = .ok (.getfield 147, 3) := by decide +kernel
theorem d_RangeTellerModel_pass_430 : decode b_RangeTellerModel_pass 430 = .ok (.iload 4, 2) := by decide +kernel
theorem d_RangeTellerModel_pass_432 : decode b_RangeTellerModel_pass 432 = .ok (.iaload, 1) := by decide +kernel
theorem d_RangeTellerModel_pass_383 : decode b_RangeTellerModel_pass 383 = .ok (.iastore, 1) := by decide +kernel
theorem d_RangeTellerModel_pass_384 : decode b_RangeTellerModel_pass 384 = .ok (.aload_n 0, 1) := by decide +kernel
theorem d_RangeTellerModel_pass_385 : decode b_RangeTellerModel_pass 385 = .ok (.getfield 108, 3) := by decide +kernel
theorem d_RangeTellerModel_pass_388 : decode b_RangeTellerModel_pass 388 = .ok (.iload 5, 2) := by decide +kernel
theorem d_RangeTellerModel_pass_390 : decode b_RangeTellerModel_pass 390 = .ok (.aload_n 0, 1) := by decide +kernel
theorem d_RangeTellerModel_pass_391 : decode b_RangeTellerModel_pass 391 = .ok (.getfield 90, 3) := by decide +kernel
theorem d_RangeTellerModel_pass_394 : decode b_RangeTellerModel_pass 394 = .ok (.iload_n 1, 1) := by decide +kernel
theorem d_RangeTellerModel_pass_395 : decode b_RangeTellerModel_pass 395 = .ok (.baload, 1) := by decide +kernel
theorem d_RangeTellerModel_pass_396 : decode b_RangeTellerModel_pass 396 = .ok (.ifCond .eq 30, 3) := by decide +kernel
theorem d_RangeTellerModel_pass_399 : decode b_RangeTellerModel_pass 399 = .ok (.aload_n 0, 1) := by decide +kernel
theorem d_RangeTellerModel_pass_400 : decode b_RangeTellerModel_pass 400 = .ok (.getfield 108, 3) := by decide +kernel
theorem d_RangeTellerModel_pass_403 : decode b_RangeTellerModel_pass 403 = .ok (.iload 5, 2) := by decide +kernel
theorem d_RangeTellerModel_pass_405 : decode b_RangeTellerModel_pass 405 = .ok (.iaload, 1) := by decide +kernel
theorem d_RangeTellerModel_pass_406 : decode b_RangeTellerModel_pass 406 = .ok (.aload_n 0, 1) := by decide +kernel
theorem d_RangeTellerModel_pass_407 : decode b_RangeTellerModel_pass 407 = .ok (.getfield 147, 3) := by decide +kernel
theorem d_RangeTellerModel_pass_410 : decode b_RangeTellerModel_pass 410 = .ok (.iload 4, 2) := by decide +kernel
theorem d_RangeTellerModel_pass_412 : decode b_RangeTellerModel_pass 412 = .ok (.iaload, 1) := by decide +kernel
theorem d_RangeTellerModel_pass_413 : decode b_RangeTellerModel_pass 413 = .ok (.if_icmp .le 13, 3) := by decide +kernel
theorem d_RangeTellerModel_pass_416 : decode b_RangeTellerModel_pass 416 = .ok (.aload_n 0, 1) := by decide +kernel
theorem d_RangeTellerModel_pass_417 : decode b_RangeTellerModel_pass 417 = .ok (.getfield 108, 3) := by decide +kernel
theorem d_RangeTellerModel_pass_420 : decode b_RangeTellerModel_pass 420 = .ok (.iload 5, 2) := by decide +kernel
theorem d_RangeTellerModel_pass_422 : decode b_RangeTellerModel_pass 422 = .ok (.iaload, 1) := by decide +kernel
theorem d_RangeTellerModel_pass_423 : decode b_RangeTellerModel_pass 423 = .ok (.goto 10, 3) := by decide +kernel
theorem d_RangeTellerModel_pass_376 : decode b_RangeTellerModel_pass 376 = .ok (.aload_n 0, 1) := by decide +kernel
theorem d_RangeTellerModel_pass_377 : decode b_RangeTellerModel_pass 377 = .ok (.getfield 144, 3) := by decide +kernel
theorem d_RangeTellerModel_pass_380 : decode b_RangeTellerModel_pass 380 = .ok (.iload 4, 2) := by decide +kernel
theorem d_RangeTellerModel_pass_382 : decode b_RangeTellerModel_pass 382 = .ok (.iaload, 1) := by decide +kernel
theorem d_RangeTellerModel_pass_334 : decode b_RangeTellerModel_pass 334 = .ok (.aload_n 0, 1) := by decide +kernel
theorem d_RangeTellerModel_pass_335 : decode b_RangeTellerModel_pass 335 = .ok (.getfield 105, 3) := by decide +kernel
theorem d_RangeTellerModel_pass_338 : decode b_RangeTellerModel_pass 338 = .ok (.iload 5, 2) := by decide +kernel
theorem d_RangeTellerModel_pass_340 : decode b_RangeTellerModel_pass 340 = .ok (.aload_n 0, 1) := by decide +kernel
theorem d_RangeTellerModel_pass_341 : decode b_RangeTellerModel_pass 341 = .ok (.getfield 90, 3) := by decide +kernel
theorem d_RangeTellerModel_pass_344 : decode b_RangeTellerModel_pass 344 = .ok (.iload_n 1, 1) := by decide +kernel
theorem d_RangeTellerModel_pass_345 : decode b_RangeTellerModel_pass 345 = .ok (.baload, 1) := by decide +kernel
theorem d_RangeTellerModel_pass_346 : decode b_RangeTellerModel_pass 346 = .ok (.ifCond .eq 30, 3) := by decide +kernel
theorem d_RangeTellerModel_pass_349 : decode b_RangeTellerModel_pass 349 = .ok (.aload_n 0, 1) := by decide +kernel
theorem d_RangeTellerModel_pass_350 : decode b_RangeTellerModel_pass 350 = .ok (.getfield 105, 3) := by decide +kernel
theorem d_RangeTellerModel_pass_353 : decode b_RangeTellerModel_pass 353 = .ok (.iload 5, 2) := by decide +kernel
theorem d_RangeTellerModel_pass_355 : decode b_RangeTellerModel_pass 355 = .ok (.iaload, 1) := by decide +kernel
theorem d_RangeTellerModel_pass_356 : decode b_RangeTellerModel_pass 356 = .ok (.aload_n 0, 1) := by decide +kernel
theorem d_RangeTellerModel_pass_357 : decode b_RangeTellerModel_pass 357 = .ok (.getfield 144, 3) := by decide +kernel
theorem d_RangeTellerModel_pass_360 : decode b_RangeTellerModel_pass 360 = .ok (.iload 4, 2) := by decide +kernel
theorem d_RangeTellerModel_pass_362 : decode b_RangeTellerModel_pass 362 = .ok (.iaload, 1) := by decide +kernel
theorem d_RangeTellerModel_pass_363 : decode b_RangeTellerModel_pass 363 = .ok (.if_icmp .ge 13, 3) := by decide +kernel
theorem d_RangeTellerModel_pass_366 : decode b_RangeTellerModel_pass 366 = .ok (.aload_n 0, 1) := by decide +kernel
theorem d_RangeTellerModel_pass_367 : decode b_RangeTellerModel_pass 367 = .ok (.getfield 105, 3) := by decide +kernel
theorem d_RangeTellerModel_pass_370 : decode b_RangeTellerModel_pass 370 = .ok (.iload 5, 2) := by decide +kernel
theorem d_RangeTellerModel_pass_372 : decode b_RangeTellerModel_pass 372 = .ok (.iaload, 1) := by decide +kernel
theorem d_RangeTellerModel_pass_373 : decode b_RangeTellerModel_pass 373 = .ok (.goto 10, 3) := by decide +kernel
theorem d_RangeTellerModel_pass_332 : decode b_RangeTellerModel_pass 332 = .ok (.iconst 1, 1) := by decide +kernel
theorem d_RangeTellerModel_pass_333 : decode b_RangeTellerModel_pass 333 = .ok (.istore_n 2, 1) := by decide +kernel
theorem d_RangeTellerModel_pass_255 : decode b_RangeTellerModel_pass 255 = .ok (.iload 4, 2) := by decide +kernel
theorem d_RangeTellerModel_pass_257 : decode b_RangeTellerModel_pass 257 = .ok (.iconst 4, 1) := by decide +kernel
theorem d_RangeTellerModel_pass_258 : decode b_RangeTellerModel_pass 258 = .ok (.if_icmp .ge 223, 3) := by decide +kernel
theorem d_RangeTellerModel_pass_481 : decode b_RangeTellerModel_pass 481 = .ok (.aload_n 0, 1) := by decide +kernel
theorem d_RangeTellerModel_pass_482 : decode b_RangeTellerModel_pass 482 = .ok (.getfield 90, 3) := by decide +kernel
theorem d_RangeTellerModel_pass_485 : decode b_RangeTellerModel_pass 485 = .ok (.iload_n 1, 1) := by decide +kernel
theorem d_RangeTellerModel_pass_486 : decode b_RangeTellerModel_pass 486 = .ok (.iconst 1, 1) := by decide +kernel
theorem d_RangeTellerModel_pass_487 : decode b_RangeTellerModel_pass 487 = .ok (.bastore, 1) := by decide +kernel
theorem d_RangeTellerModel_pass_488 : decode b_RangeTellerModel_pass 488 = .ok (.aload_n 0, 1) := by decide +kernel
theorem d_RangeTellerModel_pass_489 : decode b_RangeTellerModel_pass 489 = .ok (.getfield 93, 3) := by decide +kernel
theorem d_RangeTellerModel_pass_492 : decode b_RangeTellerModel_pass 492 = .ok (.iload_n 1, 1) := by decide +kernel
theorem d_RangeTellerModel_pass_493 : decode b_RangeTellerModel_pass 493 = .ok (.aload_n 0, 1) := by decide +kernel
theorem d_RangeTellerModel_pass_494 : decode b_RangeTellerModel_pass 494 = .ok (.getfield 93, 3) := by decide +kernel
theorem d_RangeTellerModel_pass_497 : decode b_RangeTellerModel_pass 497 = .ok (.iload_n 1, 1) := by decide +kernel
theorem d_RangeTellerModel_pass_498 : decode b_RangeTellerModel_pass 498 = .ok (.baload, 1) := by decide +kernel
theorem d_RangeTellerModel_pass_499 : decode b_RangeTellerModel_pass 499 = .ok (.ifCond .ne 7, 3) := by decide +kernel
theorem d_RangeTellerModel_pass_502 : decode b_RangeTellerModel_pass 502 = .ok (.iload_n 2, 1) := by decide +kernel
theorem d_RangeTellerModel_pass_503 : decode b_RangeTellerModel_pass 503 = .ok (.ifCond .eq 7, 3) := by decide +kernel
theorem d_RangeTellerModel_pass_510 : decode b_RangeTellerModel_pass 510 = .ok (.iconst 0, 1) := by decide +kernel
theorem d_RangeTellerModel_pass_261 : decode b_RangeTellerModel_pass 261 = .ok (.iconst 4, 1) := by decide +kernel
theorem d_RangeTellerModel_pass_262 : decode b_RangeTellerModel_pass 262 = .ok (.iload_n 1, 1) := by decide +kernel
theorem d_RangeTellerModel_pass_263 : decode b_RangeTellerModel_pass 263 = .ok (.imul, 1) := by decide +kernel
theorem d_RangeTellerModel_pass_264 : decode b_RangeTellerModel_pass 264 = .ok (.iload 4, 2) := by decide +kernel
theorem d_RangeTellerModel_pass_266 : decode b_RangeTellerModel_pass 266 = .ok (.iadd, 1) := by decide +kernel
theorem d_RangeTellerModel_pass_267 : decode b_RangeTellerModel_pass 267 = .ok (.istore 5, 2) := by decide +kernel
theorem d_RangeTellerModel_pass_269 : decode b_RangeTellerModel_pass 269 = .ok (.aload_n 0, 1) := by decide +kernel
theorem d_RangeTellerModel_pass_270 : decode b_RangeTellerModel_pass 270 = .ok (.getfield 90, 3) := by decide +kernel
theorem d_RangeTellerModel_pass_273 : decode b_RangeTellerModel_pass 273 = .ok (.iload_n 1, 1) := by decide +kernel
theorem d_RangeTellerModel_pass_274 : decode b_RangeTellerModel_pass 274 = .ok (.baload, 1) := by decide +kernel
theorem d_RangeTellerModel_pass_275 : decode b_RangeTellerModel_pass 275 = .ok (.ifCond .eq 57, 3) := by decide +kernel
theorem d_RangeTellerModel_pass_278 : decode b_RangeTellerModel_pass 278 = .ok (.aload_n 0, 1) := by decide +kernel
theorem d_RangeTellerModel_pass_279 : decode b_RangeTellerModel_pass 279 = .ok (.getfield 144, 3) := by decide +kernel
theorem d_RangeTellerModel_pass_282 : decode b_RangeTellerModel_pass 282 = .ok (.iload 4, 2) := by decide +kernel
theorem d_RangeTellerModel_pass_284 : decode b_RangeTellerModel_pass 284 = .ok (.iaload, 1) := by decide +kernel
theorem d_RangeTellerModel_pass_285 : decode b_RangeTellerModel_pass 285 = .ok (.aload_n 0, 1) := by decide +kernel
theorem d_RangeTellerModel_pass_286 : decode b_RangeTellerModel_pass 286 = .ok (.getfield 105, 3) := by decide +kernel
theorem d_RangeTellerModel_pass_289 : decode b_RangeTellerModel_pass 289 = .ok (.iload 5, 2) := by decide +kernel
theorem d_RangeTellerModel_pass_291 : decode b_RangeTellerModel_pass 291 = .ok (.iaload, 1) := by decide +kernel
theorem d_RangeTellerModel_pass_292 : decode b_RangeTellerModel_pass 292 = .ok (.if_icmp .lt 40, 3) := by decide +kernel
theorem d_RangeTellerModel_pass_295 : decode b_RangeTellerModel_pass 295 = .ok (.aload_n 0, 1) := by decide +kernel
theorem d_RangeTellerModel_pass_296 : decode b_RangeTellerModel_pass 296 = .ok (.getfield 147, 3) := by decide +kernel
theorem d_RangeTellerModel_pass_299 : decode b_RangeTellerModel_pass 299 = .ok (.iload 4, 2) := by decide +kernel
theorem d_RangeTellerModel_pass_301 : decode b_RangeTellerModel_pass 301 = .ok (.iaload, 1) := by decide +kernel
theorem d_RangeTellerModel_pass_302 : decode b_RangeTellerModel_pass 302 = .ok (.aload_n 0, 1) := by decide +kernel
theorem d_RangeTellerModel_pass_303 : decode b_RangeTellerModel_pass 303 = .ok (.getfield 108, 3) := by decide +kernel
theorem d_RangeTellerModel_pass_306 : decode b_RangeTellerModel_pass 306 = .ok (.iload 5, 2) := by decide +kernel
theorem d_RangeTellerModel_pass_308 : decode b_RangeTellerModel_pass 308 = .ok (.iaload, 1) := by decide +kernel
theorem d_RangeTellerModel_pass_309 : decode b_RangeTellerModel_pass 309 = .ok (.if_icmp .gt 23, 3) := by decide +kernel
theorem d_RangeTellerModel_pass_312 : decode b_RangeTellerModel_pass 312 = .ok (.aload_n 0, 1) := by decide +kernel
theorem d_RangeTellerModel_pass_313 : decode b_RangeTellerModel_pass 313 = .ok (.getfield 150, 3) := by decide +kernel
theorem d_RangeTellerModel_pass_316 : decode b_RangeTellerModel_pass 316 = .ok (.iload 4, 2) := by decide +kernel
theorem d_RangeTellerModel_pass_318 : decode b_RangeTellerModel_pass 318 = .ok (.baload, 1) := by decide +kernel
theorem d_RangeTellerModel_pass_319 : decode b_RangeTellerModel_pass 319 = .ok (.ifCond .eq 15, 3) := by decide +kernel
theorem d_RangeTellerModel_pass_322 : decode b_RangeTellerModel_pass 322 = .ok (.aload_n 0, 1) := by decide +kernel
theorem d_RangeTellerModel_pass_323 : decode b_RangeTellerModel_pass 323 = .ok (.getfield 111, 3) := by decide +kernel
theorem d_RangeTellerModel_pass_326 : decode b_RangeTellerModel_pass 326 = .ok (.iload 5, 2) := by decide +kernel
theorem d_RangeTellerModel_pass_328 : decode b_RangeTellerModel_pass 328 = .ok (.baload, 1) := by decide +kernel
theorem d_RangeTellerModel_pass_329 : decode b_RangeTellerModel_pass 329 = .ok (.ifCond .ne 5, 3) := by decide +kernel
theorem d_RangeTellerModel_pass_245 : decode b_RangeTellerModel_pass 245 = .ok (.bastore, 1) := by decide +kernel
theorem d_RangeTellerModel_pass_246 : decode b_RangeTellerModel_pass 246 = .ok (.iinc 4 1, 3) := by decide +kernel
theorem d_RangeTellerModel_pass_249 : decode b_RangeTellerModel_pass 249 = .ok (.goto (-224), 3) := by decide +kernel
theorem d_RangeTellerModel_pass_240 : decode b_RangeTellerModel_pass 240 = .ok (.iconst 1, 1) := by decide +kernel
theorem d_RangeTellerModel_pass_241 : decode b_RangeTellerModel_pass 241 = .ok (.goto 4, 3) := by decide +kernel
theorem d_RangeTellerModel_pass_230 : decode b_RangeTellerModel_pass 230 = .ok (.aload_n 0, 1) := by decide +kernel
theorem d_RangeTellerModel_pass_231 : decode b_RangeTellerModel_pass 231 = .ok (.getfield 141, 3) := by decide +kernel
theorem d_RangeTellerModel_pass_234 : decode b_RangeTellerModel_pass 234 = .ok (.iload 4, 2) := by decide +kernel
theorem d_RangeTellerModel_pass_236 : decode b_RangeTellerModel_pass 236 = .ok (.baload, 1) := by decide +kernel
theorem d_RangeTellerModel_pass_237 : decode b_RangeTellerModel_pass 237 = .ok (.ifCond .eq 7, 3) := by decide +kernel
theorem d_RangeTellerModel_pass_244 : decode b_RangeTellerModel_pass 244 = .ok (.iconst 0, 1) := by decide +kernel
theorem d_RangeTellerModel_pass_204 : decode b_RangeTellerModel_pass 204 = .ok (.iastore, 1) := by decide +kernel
theorem d_RangeTellerModel_pass_205 : decode b_RangeTellerModel_pass 205 = .ok (.aload_n 0, 1) := by decide +kernel
theorem d_RangeTellerModel_pass_206 : decode b_RangeTellerModel_pass 206 = .ok (.getfield 102, 3) := by decide +kernel
theorem d_RangeTellerModel_pass_209 : decode b_RangeTellerModel_pass 209 = .ok (.iload 5, 2) := by decide +kernel
theorem d_RangeTellerModel_pass_211 : decode b_RangeTellerModel_pass 211 = .ok (.aload_n 0, 1) := by decide +kernel
theorem d_RangeTellerModel_pass_212 : decode b_RangeTellerModel_pass 212 = .ok (.getfield 90, 3) := by decide +kernel
theorem d_RangeTellerModel_pass_215 : decode b_RangeTellerModel_pass 215 = .ok (.iload_n 1, 1) := by decide +kernel
theorem d_RangeTellerModel_pass_216 : decode b_RangeTellerModel_pass 216 = .ok (.baload, 1) := by decide +kernel
theorem d_RangeTellerModel_pass_217 : decode b_RangeTellerModel_pass 217 = .ok (.ifCond .eq 13, 3) := by decide +kernel
theorem d_RangeTellerModel_pass_220 : decode b_RangeTellerModel_pass 220 = .ok (.aload_n 0, 1) := by decide +kernel
theorem d_RangeTellerModel_pass_221 : decode b_RangeTellerModel_pass 221 = .ok (.getfield 102, 3) := by decide +kernel
theorem d_RangeTellerModel_pass_224 : decode b_RangeTellerModel_pass 224 = .ok (.iload 5, 2) := by decide +kernel
theorem d_RangeTellerModel_pass_226 : decode b_RangeTellerModel_pass 226 = .ok (.baload, 1) := by decide +kernel
theorem d_RangeTellerModel_pass_227 : decode b_RangeTellerModel_pass 227 = .ok (.ifCond .ne 13, 3) := by decide +kernel
theorem d_RangeTellerModel_pass_197 : decode b_RangeTellerModel_pass 197 = .ok (.aload_n 0, 1) := by decide +kernel
theorem d_RangeTellerModel_pass_198 : decode b_RangeTellerModel_pass 198 = .ok (.getfield 138, 3) := by decide +kernel
theorem d_RangeTellerModel_pass_201 : decode b_RangeTellerModel_pass 201 = .ok (.iload 4, 2) := by decide +kernel
theorem d_RangeTellerModel_pass_203 : decode b_RangeTellerModel_pass 203 = .ok (.iaload, 1) := by decide +kernel
theorem d_RangeTellerModel_pass_154 : decode b_RangeTellerModel_pass 154 = .ok (.iastore, 1) := by decide +kernel
theorem d_RangeTellerModel_pass_155 : decode b_RangeTellerModel_pass 155 = .ok (.aload_n 0, 1) := by decide +kernel
theorem d_RangeTellerModel_pass_156 : decode b_RangeTellerModel_pass 156 = .ok (.getfield 99, 3) := by decide +kernel
theorem d_RangeTellerModel_pass_159 : decode b_RangeTellerModel_pass 159 = .ok (.iload 5, 2) := by decide +kernel
theorem d_RangeTellerModel_pass_161 : decode b_RangeTellerModel_pass 161 = .ok (.aload_n 0, 1) := by decide +kernel
theorem d_RangeTellerModel_pass_162 : decode b_RangeTellerModel_pass 162 = .ok (.getfield 90, 3) := by decide +kernel
theorem d_RangeTellerModel_pass_165 : decode b_RangeTellerModel_pass 165 = .ok (.iload_n 1, 1) := by decide +kernel
theorem d_RangeTellerModel_pass_166 : decode b_RangeTellerModel_pass 166 = .ok (.baload, 1) := by decide +kernel
theorem d_RangeTellerModel_pass_167 : decode b_RangeTellerModel_pass 167 = .ok (.ifCond .eq 30, 3) := by decide +kernel
theorem d_RangeTellerModel_pass_170 : decode b_RangeTellerModel_pass 170 = .ok (.aload_n 0, 1) := by decide +kernel
theorem d_RangeTellerModel_pass_171 : decode b_RangeTellerModel_pass 171 = .ok (.getfield 99, 3) := by decide +kernel
theorem d_RangeTellerModel_pass_174 : decode b_RangeTellerModel_pass 174 = .ok (.iload 5, 2) := by decide +kernel
theorem d_RangeTellerModel_pass_176 : decode b_RangeTellerModel_pass 176 = .ok (.iaload, 1) := by decide +kernel
theorem d_RangeTellerModel_pass_177 : decode b_RangeTellerModel_pass 177 = .ok (.aload_n 0, 1) := by decide +kernel
theorem d_RangeTellerModel_pass_178 : decode b_RangeTellerModel_pass 178 = .ok (.getfield 138, 3) := by decide +kernel
theorem d_RangeTellerModel_pass_181 : decode b_RangeTellerModel_pass 181 = .ok (.iload 4, 2) := by decide +kernel
theorem d_RangeTellerModel_pass_183 : decode b_RangeTellerModel_pass 183 = .ok (.iaload, 1) := by decide +kernel
theorem d_RangeTellerModel_pass_184 : decode b_RangeTellerModel_pass 184 = .ok (.if_icmp .le 13, 3) := by decide +kernel
theorem d_RangeTellerModel_pass_187 : decode b_RangeTellerModel_pass 187 = .ok (.aload_n 0, 1) := by decide +kernel
theorem d_RangeTellerModel_pass_188 : decode b_RangeTellerModel_pass 188 = .ok (.getfield 99, 3) := by decide +kernel
theorem d_RangeTellerModel_pass_191 : decode b_RangeTellerModel_pass 191 = .ok (.iload 5, 2) := by decide +kernel
theorem d_RangeTellerModel_pass_193 : decode b_RangeTellerModel_pass 193 = .ok (.iaload, 1) := by decide +kernel
theorem d_RangeTellerModel_pass_194 : decode b_RangeTellerModel_pass 194 = .ok (.goto 10, 3) := by decide +kernel
