theorem d_Foreteller_foretell_49 : decode b_Foreteller_foretell 49 = .ok (.iload_n 3, 1) := by decide +kernel
theorem d_Foreteller_foretell_50 : decode b_Foreteller_foretell 50 = .ok (.aload_n 0, 1) := by decide +kernel
theorem d_Foreteller_foretell_51 : decode b_Foreteller_foretell 51 = .ok (.getfield 46, 3) := by decide +kernel
theorem d_Foreteller_foretell_54 : decode b_Foreteller_foretell 54 = .ok (.getfield 60, 3) := by decide +kernel
theorem d_Foreteller_foretell_57 : decode b_Foreteller_foretell 57 = .ok (.if_icmp .ge 37, 3) := by decide +kernel
theorem d_Foreteller_foretell_94 : decode b_Foreteller_foretell 94 = .ok (.iinc 2 1, 3) := by decide +kernel
theorem d_Foreteller_foretell_97 : decode b_Foreteller_foretell 97 = .ok (.goto (-62), 3) := by decide +kernel
theorem d_Foreteller_foretell_60 : decode b_Foreteller_foretell 60 = .ok (.aload_n 0, 1) := by decide +kernel
theorem d_Foreteller_foretell_61 : decode b_Foreteller_foretell 61 = .ok (.getfield 28, 3) := by decide +kernel
theorem d_Foreteller_foretell_64 : decode b_Foreteller_foretell 64 = .ok (.iload_n 3, 1) := by decide +kernel
theorem d_Foreteller_foretell_65 : decode b_Foreteller_foretell 65 = .ok (.baload, 1) := by decide +kernel
theorem d_Foreteller_foretell_66 : decode b_Foreteller_foretell 66 = .ok (.ifCond .eq 22, 3) := by decide +kernel
theorem d_Foreteller_foretell_69 : decode b_Foreteller_foretell 69 = .ok (.aload_n 0, 1) := by decide +kernel
theorem d_Foreteller_foretell_70 : decode b_Foreteller_foretell 70 = .ok (.getfield 28, 3) := by decide +kernel
theorem d_Foreteller_foretell_73 : decode b_Foreteller_foretell 73 = .ok (.iload_n 3, 1) := by decide +kernel
theorem d_Foreteller_foretell_74 : decode b_Foreteller_foretell 74 = .ok (.iconst 0, 1) := by decide +kernel
theorem d_Foreteller_foretell_75 : decode b_Foreteller_foretell 75 = .ok (.bastore, 1) := by decide +kernel
theorem d_Foreteller_foretell_76 : decode b_Foreteller_foretell 76 = .ok (.iconst 1, 1) := by decide +kernel
theorem d_Foreteller_foretell_77 : decode b_Foreteller_foretell 77 = .ok (.istore_n 1, 1) := by decide +kernel
theorem d_Foreteller_foretell_78 : decode b_Foreteller_foretell 78 = .ok (.aload_n 0, 1) := by decide +kernel
theorem d_Foreteller_foretell_79 : decode b_Foreteller_foretell 79 = .ok (.iload_n 3, 1) := by decide +kernel
theorem d_Foreteller_foretell_80 : decode b_Foreteller_foretell 80 = .ok (.invokevirtual 66, 3) := by decide +kernel
theorem d_Foreteller_foretell_83 : decode b_Foreteller_foretell 83 = .ok (.aload_n 0, 1) := by decide +kernel
theorem d_Foreteller_foretell_84 : decode b_Foreteller_foretell 84 = .ok (.iload_n 3, 1) := by decide +kernel
theorem d_Foreteller_foretell_85 : decode b_Foreteller_foretell 85 = .ok (.invokevirtual 69, 3) := by decide +kernel
theorem d_Foreteller_foretell_35 : decode b_Foreteller_foretell 35 = .ok (.iload_n 2, 1) := by decide +kernel
theorem d_Foreteller_foretell_36 : decode b_Foreteller_foretell 36 = .ok (.ldc 59, 2) := by decide +kernel
theorem d_Foreteller_foretell_38 : decode b_Foreteller_foretell 38 = .ok (.if_icmp .ge 62, 3) := by decide +kernel
theorem d_Foreteller_foretell_100 : decode b_Foreteller_foretell 100 = .ok (.return_, 1) := by decide +kernel
theorem d_Foreteller_foretell_41 : decode b_Foreteller_foretell 41 = .ok (.iload_n 1, 1) := by decide +kernel
theorem d_Foreteller_foretell_42 : decode b_Foreteller_foretell 42 = .ok (.ifCond .eq 58, 3) := by decide +kernel
theorem d_Foreteller_foretell_45 : decode b_Foreteller_foretell 45 = .ok (.iconst 0, 1) := by decide +kernel
theorem d_Foreteller_foretell_46 : decode b_Foreteller_foretell 46 = .ok (.istore_n 1, 1) := by decide +kernel
theorem d_Foreteller_foretell_47 : decode b_Foreteller_foretell 47 = .ok (.iconst 0, 1) := by decide +kernel
theorem d_Foreteller_foretell_48 : decode b_Foreteller_foretell 48 = .ok (.istore_n 3, 1) := by decide +kernel
theorem d_Foreteller_foretell_6 : decode b_Foreteller_foretell 6 = .ok (.iload_n 1, 1) := by decide +kernel
theorem d_Foreteller_foretell_7 : decode b_Foreteller_foretell 7 = .ok (.iconst 2, 1) := by decide +kernel
theorem d_Foreteller_foretell_8 : decode b_Foreteller_foretell 8 = .ok (.if_icmp .ge 18, 3) := by decide +kernel
theorem d_Foreteller_foretell_26 : decode b_Foreteller_foretell 26 = .ok (.aload_n 0, 1) := by decide +kernel
theorem d_Foreteller_foretell_27 : decode b_Foreteller_foretell 27 = .ok (.iconst 0, 1) := by decide +kernel
theorem d_Foreteller_foretell_28 : decode b_Foreteller_foretell 28 = .ok (.invokevirtual 55, 3) := by decide +kernel
theorem d_Foreteller_foretell_31 : decode b_Foreteller_foretell 31 = .ok (.iconst 1, 1) := by decide +kernel
theorem d_Foreteller_foretell_32 : decode b_Foreteller_foretell 32 = .ok (.istore_n 1, 1) := by decide +kernel
theorem d_Foreteller_foretell_33 : decode b_Foreteller_foretell 33 = .ok (.iconst 0, 1) := by decide +kernel
theorem d_Foreteller_foretell_34 : decode b_Foreteller_foretell 34 = .ok (.istore_n 2, 1) := by decide +kernel
theorem d_Foreteller_foretell_11 : decode b_Foreteller_foretell 11 = .ok (.aload_n 0, 1) := by decide +kernel
theorem d_Foreteller_foretell_12 : decode b_Foreteller_foretell 12 = .ok (.getfield 37, 3) := by decide +kernel
theorem d_Foreteller_foretell_15 : decode b_Foreteller_foretell 15 = .ok (.iload_n 1, 1) := by decide +kernel
theorem d_Foreteller_foretell_16 : decode b_Foreteller_foretell 16 = .ok (.sipush 4032, 3) := by decide +kernel
theorem d_Foreteller_foretell_19 : decode b_Foreteller_foretell 19 = .ok (.iastore, 1) := by decide +kernel
theorem d_Foreteller_foretell_20 : decode b_Foreteller_foretell 20 = .ok (.iinc 1 1, 3) := by decide +kernel
theorem d_Foreteller_foretell_23 : decode b_Foreteller_foretell 23 = .ok (.goto (-17), 3) := by decide +kernel
theorem d_Foreteller_foretell_0 : decode b_Foreteller_foretell 0 = .ok (.aload_n 0, 1) := by decide +kernel
theorem d_Foreteller_foretell_1 : decode b_Foreteller_foretell 1 = .ok (.invokevirtual 50, 3) := by decide +kernel
theorem d_Foreteller_foretell_4 : decode b_Foreteller_foretell 4 = .ok (.iconst 0, 1) := by decide +kernel
theorem d_Foreteller_foretell_5 : decode b_Foreteller_foretell 5 = .ok (.istore_n 1, 1) := by decide +kernel
theorem d_RangeTeller_load_0 : decode b_RangeTeller_load 0 = .ok (.aload_n 0, 1) := by decide +kernel
theorem d_RangeTeller_load_1 : decode b_RangeTeller_load 1 = .ok (.iconst 0, 1) := by decide +kernel
theorem d_RangeTeller_load_2 : decode b_RangeTeller_load 2 = .ok (.putfield 46, 3) := by decide +kernel
theorem d_RangeTeller_load_5 : decode b_RangeTeller_load 5 = .ok (.aload_n 0, 1) := by decide +kernel
theorem d_RangeTeller_load_6 : decode b_RangeTeller_load 6 = .ok (.getfield 35, 3) := by decide +kernel
theorem d_RangeTeller_load_9 : decode b_RangeTeller_load 9 = .ok (.invokevirtual 58, 3) := by decide +kernel
theorem d_RangeTeller_load_12 : decode b_RangeTeller_load 12 = .ok (.aload_n 0, 1) := by decide +kernel
theorem d_RangeTeller_load_13 : decode b_RangeTeller_load 13 = .ok (.aload_n 0, 1) := by decide +kernel
theorem d_RangeTeller_load_14 : decode b_RangeTeller_load 14 = .ok (.getfield 21, 3) := by decide +kernel
theorem d_RangeTeller_load_17 : decode b_RangeTeller_load 17 = .ok (.invokevirtual 61, 3) := by decide +kernel
theorem d_RangeTeller_load_20 : decode b_RangeTeller_load 20 = .ok (.putfield 50, 3) := by decide +kernel
theorem d_RangeTeller_load_23 : decode b_RangeTeller_load 23 = .ok (.aload_n 0, 1) := by decide +kernel
theorem d_RangeTeller_load_24 : decode b_RangeTeller_load 24 = .ok (.getfield 50, 3) := by decide +kernel
theorem d_RangeTeller_load_27 : decode b_RangeTeller_load 27 = .ok (.bipush (-3), 2) := by decide +kernel
theorem d_RangeTeller_load_29 : decode b_RangeTeller_load 29 = .ok (.if_icmp .eq 5, 3) := by decide +kernel
theorem d_RangeTeller_load_34 : decode b_RangeTeller_load 34 = .ok (.aload_n 0, 1) := by decide +kernel
theorem d_RangeTeller_load_35 : decode b_RangeTeller_load 35 = .ok (.aload_n 0, 1) := by decide +kernel
theorem d_RangeTeller_load_36 : decode b_RangeTeller_load 36 = .ok (.getfield 28, 3) := by decide +kernel
theorem d_RangeTeller_load_39 : decode b_RangeTeller_load 39 = .ok (.invokevirtual 65, 3) := by decide +kernel
theorem d_RangeTeller_load_42 : decode b_RangeTeller_load 42 = .ok (.putfield 50, 3) := by decide +kernel
theorem d_RangeTeller_load_45 : decode b_RangeTeller_load 45 = .ok (.aload_n 0, 1) := by decide +kernel
theorem d_RangeTeller_load_46 : decode b_RangeTeller_load 46 = .ok (.getfield 50, 3) := by decide +kernel
theorem d_RangeTeller_load_49 : decode b_RangeTeller_load 49 = .ok (.bipush (-3), 2) := by decide +kernel
theorem d_RangeTeller_load_51 : decode b_RangeTeller_load 51 = .ok (.if_icmp .eq 6, 3) := by decide +kernel
theorem d_RangeTeller_load_57 : decode b_RangeTeller_load 57 = .ok (.aload_n 0, 1) := by decide +kernel
theorem d_RangeTeller_load_58 : decode b_RangeTeller_load 58 = .ok (.getfield 42, 3) := by decide +kernel
theorem d_RangeTeller_load_61 : decode b_RangeTeller_load 61 = .ok (.invokevirtual 68, 3) := by decide +kernel
theorem d_RangeTeller_load_64 : decode b_RangeTeller_load 64 = .ok (.aload_n 0, 1) := by decide +kernel
theorem d_RangeTeller_load_65 : decode b_RangeTeller_load 65 = .ok (.iconst 1, 1) := by decide +kernel
theorem d_RangeTeller_load_66 : decode b_RangeTeller_load 66 = .ok (.putfield 46, 3) := by decide +kernel
theorem d_RangeTeller_load_69 : decode b_RangeTeller_load 69 = .ok (.aload_n 0, 1) := by decide +kernel
theorem d_RangeTeller_load_70 : decode b_RangeTeller_load 70 = .ok (.getfield 10, 3) := by decide +kernel
theorem d_RangeTeller_load_73 : decode b_RangeTeller_load 73 = .ok (.getfield 71, 3) := by decide +kernel
theorem d_RangeTeller_load_76 : decode b_RangeTeller_load 76 = .ok (.ireturn, 1) := by decide +kernel
theorem d_RangeTeller_load_54 : decode b_RangeTeller_load 54 = .ok (.bipush (-2), 2) := by decide +kernel
theorem d_RangeTeller_load_56 : decode b_RangeTeller_load 56 = .ok (.ireturn, 1) := by decide +kernel
theorem d_RangeTeller_load_32 : decode b_RangeTeller_load 32 = .ok (.iconst (-1), 1) := by decide +kernel
theorem d_RangeTeller_load_33 : decode b_RangeTeller_load 33 = .ok (.ireturn, 1) := by decide +kernel
theorem d_RangeTeller_place_0 : decode b_RangeTeller_place 0 = .ok (.aload_n 0, 1) := by decide +kernel
theorem d_RangeTeller_place_1 : decode b_RangeTeller_place 1 = .ok (.getfield 50, 3) := by decide +kernel
theorem d_RangeTeller_place_4 : decode b_RangeTeller_place 4 = .ok (.ireturn, 1) := by decide +kernel
theorem d_Runner_addInput_0 : decode b_Runner_addInput 0 = .ok (.iload_n 1, 1) := by decide +kernel
theorem d_Runner_addInput_1 : decode b_Runner_addInput 1 = .ok (.ifCond .lt 18, 3) := by decide +kernel
theorem d_Runner_addInput_19 : decode b_Runner_addInput 19 = .ok (.bipush (-3), 2) := by decide +kernel
theorem d_Runner_addInput_21 : decode b_Runner_addInput 21 = .ok (.ireturn, 1) := by decide +kernel
theorem d_Runner_addInput_4 : decode b_Runner_addInput 4 = .ok (.iload_n 1, 1) := by decide +kernel
theorem d_Runner_addInput_5 : decode b_Runner_addInput 5 = .ok (.bipush 64, 2) := by decide +kernel
theorem d_Runner_addInput_7 : decode b_Runner_addInput 7 = .ok (.if_icmp .ge 12, 3) := by decide +kernel
theorem d_Runner_addInput_10 : decode b_Runner_addInput 10 = .ok (.aload_n 0, 1) := by decide +kernel
theorem d_Runner_addInput_11 : decode b_Runner_addInput 11 = .ok (.getfield 41, 3) := by decide +kernel
theorem d_Runner_addInput_14 : decode b_Runner_addInput 14 = .ok (.bipush 12, 2) := by decide +kernel
theorem d_Runner_addInput_16 : decode b_Runner_addInput 16 = .ok (.if_icmp .lt 6, 3) := by decide +kernel
theorem d_Runner_addInput_22 : decode b_Runner_addInput 22 = .ok (.aload_n 0, 1) := by decide +kernel
theorem d_Runner_addInput_23 : decode b_Runner_addInput 23 = .ok (.getfield 9, 3) := by decide +kernel
theorem d_Runner_addInput_26 : decode b_Runner_addInput 26 = .ok (.aload_n 0, 1) := by decide +kernel
theorem d_Runner_addInput_27 : decode b_Runner_addInput 27 = .ok (.getfield 41, 3) := by decide +kernel
theorem d_Runner_addInput_30 : decode b_Runner_addInput 30 = .ok (.iload_n 1, 1) := by decide +kernel
theorem d_Runner_addInput_31 : decode b_Runner_addInput 31 = .ok (.iastore, 1) := by decide +kernel
theorem d_Runner_addInput_32 : decode b_Runner_addInput 32 = .ok (.aload_n 0, 1) := by decide +kernel
theorem d_Runner_addInput_33 : decode b_Runner_addInput 33 = .ok (.dup, 1) := by decide +kernel
theorem d_Runner_addInput_34 : decode b_Runner_addInput 34 = .ok (.getfield 41, 3) := by decide +kernel
theorem d_Runner_addInput_37 : decode b_Runner_addInput 37 = .ok (.iconst 1, 1) := by decide +kernel
theorem d_Runner_addInput_38 : decode b_Runner_addInput 38 = .ok (.iadd, 1) := by decide +kernel
theorem d_Runner_addInput_39 : decode b_Runner_addInput 39 = .ok (.putfield 41, 3) := by decide +kernel
theorem d_Runner_addInput_42 : decode b_Runner_addInput 42 = .ok (.aload_n 0, 1) := by decide +kernel
theorem d_Runner_addInput_43 : decode b_Runner_addInput 43 = .ok (.getfield 41, 3) := by decide +kernel
theorem d_Runner_addInput_46 : decode b_Runner_addInput 46 = .ok (.ireturn, 1) := by decide +kernel
theorem d_RangeTeller_input_0 : decode b_RangeTeller_input 0 = .ok (.aload_n 0, 1) := by decide +kernel
theorem d_RangeTeller_input_1 : decode b_RangeTeller_input 1 = .ok (.getfield 35, 3) := by decide +kernel
theorem d_RangeTeller_input_4 : decode b_RangeTeller_input 4 = .ok (.iload_n 1, 1) := by decide +kernel
theorem d_RangeTeller_input_5 : decode b_RangeTeller_input 5 = .ok (.invokevirtual 74, 3) := by decide +kernel
theorem d_RangeTeller_input_8 : decode b_RangeTeller_input 8 = .ok (.ireturn, 1) := by decide +kernel
theorem d_Runner_enter_72 : decode b_Runner_enter 72 = .ok (.iastore, 1) := by decide +kernel
theorem d_Runner_enter_73 : decode b_Runner_enter 73 = .ok (.iinc 3 1, 3) := by decide +kernel
theorem d_Runner_enter_76 : decode b_Runner_enter 76 = .ok (.goto (-41), 3) := by decide +kernel
theorem d_Runner_enter_35 : decode b_Runner_enter 35 = .ok (.iload_n 3, 1) := by decide +kernel
theorem d_Runner_enter_36 : decode b_Runner_enter 36 = .ok (.iconst 4, 1) := by decide +kernel
theorem d_Runner_enter_37 : decode b_Runner_enter 37 = .ok (.if_icmp .ge 42, 3) := by decide +kernel
theorem d_Runner_enter_79 : decode b_Runner_enter 79 = .ok (.aload_n 0, 1) := by decide +kernel
theorem d_Runner_enter_80 : decode b_Runner_enter 80 = .ok (.aload_n 0, 1) := by decide +kernel
theorem d_Runner_enter_81 : decode b_Runner_enter 81 = .ok (.getfield 33, 3) := by decide +kernel
theorem d_Runner_enter_84 : decode b_Runner_enter 84 = .ok (.getfield 97, 3) := by decide +kernel
theorem d_Runner_enter_87 : decode b_Runner_enter 87 = .ok (.iload_n 1, 1) := by decide +kernel
theorem d_Runner_enter_88 : decode b_Runner_enter 88 = .ok (.iaload, 1) := by decide +kernel
theorem d_Runner_enter_89 : decode b_Runner_enter 89 = .ok (.putfield 61, 3) := by decide +kernel
theorem d_Runner_enter_92 : decode b_Runner_enter 92 = .ok (.return_, 1) := by decide +kernel
theorem d_Runner_enter_40 : decode b_Runner_enter 40 = .ok (.aload_n 0, 1) := by decide +kernel
theorem d_Runner_enter_41 : decode b_Runner_enter 41 = .ok (.getfield 24, 3) := by decide +kernel
theorem d_Runner_enter_44 : decode b_Runner_enter 44 = .ok (.aload_n 0, 1) := by decide +kernel
theorem d_Runner_enter_45 : decode b_Runner_enter 45 = .ok (.getfield 91, 3) := by decide +kernel
theorem d_Runner_enter_48 : decode b_Runner_enter 48 = .ok (.iconst 4, 1) := by decide +kernel
theorem d_Runner_enter_49 : decode b_Runner_enter 49 = .ok (.imul, 1) := by decide +kernel
theorem d_Runner_enter_50 : decode b_Runner_enter 50 = .ok (.iload_n 3, 1) := by decide +kernel
theorem d_Runner_enter_51 : decode b_Runner_enter 51 = .ok (.iadd, 1) := by decide +kernel
theorem d_Runner_enter_52 : decode b_Runner_enter 52 = .ok (.iload_n 3, 1) := by decide +kernel
theorem d_Runner_enter_53 : decode b_Runner_enter 53 = .ok (.iload_n 2, 1) := by decide +kernel
theorem d_Runner_enter_54 : decode b_Runner_enter 54 = .ok (.if_icmp .ge 17, 3) := by decide +kernel
theorem d_Runner_enter_71 : decode b_Runner_enter 71 = .ok (.iconst 0, 1) := by decide +kernel
theorem d_Runner_enter_57 : decode b_Runner_enter 57 = .ok (.aload_n 0, 1) := by decide +kernel
theorem d_Runner_enter_58 : decode b_Runner_enter 58 = .ok (.getfield 21, 3) := by decide +kernel
theorem d_Runner_enter_61 : decode b_Runner_enter 61 = .ok (.aload_n 0, 1) := by decide +kernel
theorem d_Runner_enter_62 : decode b_Runner_enter 62 = .ok (.getfield 88, 3) := by decide +kernel
theorem d_Runner_enter_65 : decode b_Runner_enter 65 = .ok (.iload_n 3, 1) := by decide +kernel
theorem d_Runner_enter_66 : decode b_Runner_enter 66 = .ok (.iadd, 1) := by decide +kernel
theorem d_Runner_enter_67 : decode b_Runner_enter 67 = .ok (.iaload, 1) := by decide +kernel
theorem d_Runner_enter_68 : decode b_Runner_enter 68 = .ok (.goto 4, 3) := by decide +kernel
theorem d_Runner_enter_0 : decode b_Runner_enter 0 = .ok (.aload_n 0, 1) := by decide +kernel
theorem d_Runner_enter_1 : decode b_Runner_enter 1 = .ok (.getfield 33, 3) := by decide +kernel
theorem d_Runner_enter_4 : decode b_Runner_enter 4 = .ok (.getfield 83, 3) := by decide +kernel
theorem d_Runner_enter_7 : decode b_Runner_enter 7 = .ok (.iload_n 1, 1) := by decide +kernel
theorem d_Runner_enter_8 : decode b_Runner_enter 8 = .ok (.iaload, 1) := by decide +kernel
theorem d_Runner_enter_9 : decode b_Runner_enter 9 = .ok (.istore_n 2, 1) := by decide +kernel
theorem d_Runner_enter_10 : decode b_Runner_enter 10 = .ok (.aload_n 0, 1) := by decide +kernel
theorem d_Runner_enter_11 : decode b_Runner_enter 11 = .ok (.dup, 1) := by decide +kernel
theorem d_Runner_enter_12 : decode b_Runner_enter 12 = .ok (.getfield 88, 3) := by decide +kernel
theorem d_Runner_enter_15 : decode b_Runner_enter 15 = .ok (.iload_n 2, 1) := by decide +kernel
theorem d_Runner_enter_16 : decode b_Runner_enter 16 = .ok (.isub, 1) := by decide +kernel
theorem d_Runner_enter_17 : decode b_Runner_enter 17 = .ok (.putfield 88, 3) := by decide +kernel
theorem d_Runner_enter_20 : decode b_Runner_enter 20 = .ok (.aload_n 0, 1) := by decide +kernel
theorem d_Runner_enter_21 : decode b_Runner_enter 21 = .ok (.getfield 27, 3) := by decide +kernel
theorem d_Runner_enter_24 : decode b_Runner_enter 24 = .ok (.aload_n 0, 1) := by decide +kernel
theorem d_Runner_enter_25 : decode b_Runner_enter 25 = .ok (.getfield 91, 3) := by decide +kernel
theorem d_Runner_enter_28 : decode b_Runner_enter 28 = .ok (.aload_n 0, 1) := by decide +kernel
theorem d_Runner_enter_29 : decode b_Runner_enter 29 = .ok (.getfield 88, 3) := by decide +kernel
theorem d_Runner_enter_32 : decode b_Runner_enter 32 = .ok (.iastore, 1) := by decide +kernel
theorem d_Runner_enter_33 : decode b_Runner_enter 33 = .ok (.iconst 0, 1) := by decide +kernel
theorem d_Runner_enter_34 : decode b_Runner_enter 34 = .ok (.istore_n 3, 1) := by decide +kernel
theorem d_Runner_begin_0 : decode b_Runner_begin 0 = .ok (.aload_n 0, 1) := by decide +kernel
theorem d_Runner_begin_1 : decode b_Runner_begin 1 = .ok (.getfield 15, 3) := by decide +kernel
theorem d_Runner_begin_4 : decode b_Runner_begin 4 = .ok (.iconst 0, 1) := by decide +kernel
theorem d_Runner_begin_5 : decode b_Runner_begin 5 = .ok (.invokestatic 68, 3) := by decide +kernel
theorem d_Runner_begin_8 : decode b_Runner_begin 8 = .ok (.aload_n 0, 1) := by decide +kernel
theorem d_Runner_begin_9 : decode b_Runner_begin 9 = .ok (.iconst 1, 1) := by decide +kernel
theorem d_Runner_begin_10 : decode b_Runner_begin 10 = .ok (.putfield 37, 3) := by decide +kernel
theorem d_Runner_begin_13 : decode b_Runner_begin 13 = .ok (.aload_n 0, 1) := by decide +kernel
theorem d_Runner_begin_14 : decode b_Runner_begin 14 = .ok (.bipush 6, 2) := by decide +kernel
theorem d_Runner_begin_16 : decode b_Runner_begin 16 = .ok (.putfield 55, 3) := by decide +kernel
theorem d_Runner_begin_19 : decode b_Runner_begin 19 = .ok (.aload_n 0, 1) := by decide +kernel
theorem d_Runner_begin_20 : decode b_Runner_begin 20 = .ok (.iconst 0, 1) := by decide +kernel
theorem d_Runner_begin_21 : decode b_Runner_begin 21 = .ok (.putfield 58, 3) := by decide +kernel
theorem d_Runner_begin_24 : decode b_Runner_begin 24 = .ok (.aload_n 0, 1) := by decide +kernel
theorem d_Runner_begin_25 : decode b_Runner_begin 25 = .ok (.bipush (-3), 2) := by decide +kernel
theorem d_Runner_begin_27 : decode b_Runner_begin 27 = .ok (.putfield 74, 3) := by decide +kernel
theorem d_Runner_begin_30 : decode b_Runner_begin 30 = .ok (.aload_n 0, 1) := by decide +kernel
theorem d_Runner_begin_31 : decode b_Runner_begin 31 = .ok (.iconst 0, 1) := by decide +kernel
theorem d_Runner_begin_32 : decode b_Runner_begin 32 = .ok (.putfield 77, 3) := by decide +kernel
theorem d_Runner_begin_35 : decode b_Runner_begin 35 = .ok (.aload_n 0, 1) := by decide +kernel
theorem d_Runner_begin_36 : decode b_Runner_begin 36 = .ok (.iconst 0, 1) := by decide +kernel
theorem d_Runner_begin_37 : decode b_Runner_begin 37 = .ok (.putfield 80, 3) := by decide +kernel
theorem d_Runner_begin_40 : decode b_Runner_begin 40 = .ok (.aload_n 0, 1) := by decide +kernel
theorem d_Runner_begin_41 : decode b_Runner_begin 41 = .ok (.getfield 21, 3) := by decide +kernel
theorem d_Runner_begin_44 : decode b_Runner_begin 44 = .ok (.iconst 0, 1) := by decide +kernel
theorem d_Runner_begin_45 : decode b_Runner_begin 45 = .ok (.iload_n 1, 1) := by decide +kernel
theorem d_Runner_begin_46 : decode b_Runner_begin 46 = .ok (.iastore, 1) := by decide +kernel
theorem d_Runner_begin_47 : decode b_Runner_begin 47 = .ok (.aload_n 0, 1) := by decide +kernel
theorem d_Runner_begin_48 : decode b_Runner_begin 48 = .ok (.getfield 21, 3) := by decide +kernel
theorem d_Runner_begin_51 : decode b_Runner_begin 51 = .ok (.iconst 1, 1) := by decide +kernel
theorem d_Runner_begin_52 : decode b_Runner_begin 52 = .ok (.iload_n 2, 1) := by decide +kernel
theorem d_Runner_begin_53 : decode b_Runner_begin 53 = .ok (.iastore, 1) := by decide +kernel
theorem d_Runner_begin_54 : decode b_Runner_begin 54 = .ok (.aload_n 0, 1) := by decide +kernel
theorem d_Runner_begin_55 : decode b_Runner_begin 55 = .ok (.aload_n 0, 1) := by decide +kernel
theorem d_Runner_begin_56 : decode b_Runner_begin 56 = .ok (.getfield 33, 3) := by decide +kernel
theorem d_Runner_begin_59 : decode b_Runner_begin 59 = .ok (.getfield 83, 3) := by decide +kernel
theorem d_Runner_begin_62 : decode b_Runner_begin 62 = .ok (.iconst 0, 1) := by decide +kernel
theorem d_Runner_begin_63 : decode b_Runner_begin 63 = .ok (.iaload, 1) := by decide +kernel
theorem d_Runner_begin_64 : decode b_Runner_begin 64 = .ok (.putfield 88, 3) := by decide +kernel
theorem d_Runner_begin_67 : decode b_Runner_begin 67 = .ok (.aload_n 0, 1) := by decide +kernel
theorem d_Runner_begin_68 : decode b_Runner_begin 68 = .ok (.iconst 0, 1) := by decide +kernel
theorem d_Runner_begin_69 : decode b_Runner_begin 69 = .ok (.putfield 91, 3) := by decide +kernel
theorem d_Runner_begin_72 : decode b_Runner_begin 72 = .ok (.aload_n 0, 1) := by decide +kernel
theorem d_Runner_begin_73 : decode b_Runner_begin 73 = .ok (.iconst 0, 1) := by decide +kernel
theorem d_Runner_begin_74 : decode b_Runner_begin 74 = .ok (.invokevirtual 94, 3) := by decide +kernel
theorem d_Runner_begin_77 : decode b_Runner_begin 77 = .ok (.return_, 1) := by decide +kernel
theorem d_Runner_pop_0 : decode b_Runner_pop 0 = .ok (.aload_n 0, 1) := by decide +kernel
theorem d_Runner_pop_1 : decode b_Runner_pop 1 = .ok (.dup, 1) := by decide +kernel
theorem d_Runner_pop_2 : decode b_Runner_pop 2 = .ok (.getfield 88, 3) := by decide +kernel
theorem d_Runner_pop_5 : decode b_Runner_pop 5 = .ok (.iconst 1, 1) := by decide +kernel
theorem d_Runner_pop_6 : decode b_Runner_pop 6 = .ok (.isub, 1) := by decide +kernel
theorem d_Runner_pop_7 : decode b_Runner_pop 7 = .ok (.putfield 88, 3) := by decide +kernel
theorem d_Runner_pop_10 : decode b_Runner_pop 10 = .ok (.aload_n 0, 1) := by decide +kernel
theorem d_Runner_pop_11 : decode b_Runner_pop 11 = .ok (.getfield 21, 3) := by decide +kernel
theorem d_Runner_pop_14 : decode b_Runner_pop 14 = .ok (.aload_n 0, 1) := by decide +kernel
theorem d_Runner_pop_15 : decode b_Runner_pop 15 = .ok (.getfield 88, 3) := by decide +kernel
theorem d_Runner_pop_18 : decode b_Runner_pop 18 = .ok (.iaload, 1) := by decide +kernel
theorem d_Runner_pop_19 : decode b_Runner_pop 19 = .ok (.ireturn, 1) := by decide +kernel
theorem d_Runner_reckoned_0 : decode b_Runner_reckoned 0 = .ok (.iload_n 0, 1) := by decide +kernel
theorem d_Runner_reckoned_1 : decode b_Runner_reckoned 1 = .ok (.tableswitch 113 19 25 #[43, 54, 65, 72, 82, 89, 101], 43) := by decide +kernel
theorem d_Runner_reckoned_44 : decode b_Runner_reckoned 44 = .ok (.iload_n 1, 1) := by decide +kernel
theorem d_Runner_reckoned_45 : decode b_Runner_reckoned 45 = .ok (.iload_n 2, 1) := by decide +kernel
theorem d_Runner_reckoned_46 : decode b_Runner_reckoned 46 = .ok (.if_icmp .ne 7, 3) := by decide +kernel
theorem d_Runner_reckoned_53 : decode b_Runner_reckoned 53 = .ok (.iconst 0, 1) := by decide +kernel
theorem d_Runner_reckoned_54 : decode b_Runner_reckoned 54 = .ok (.ireturn, 1) := by decide +kernel
theorem d_Runner_reckoned_49 : decode b_Runner_reckoned 49 = .ok (.iconst 1, 1) := by decide +kernel
theorem d_Runner_reckoned_50 : decode b_Runner_reckoned 50 = .ok (.goto 4, 3) := by decide +kernel
theorem d_Runner_reckoned_55 : decode b_Runner_reckoned 55 = .ok (.iload_n 1, 1) := by decide +kernel
theorem d_Runner_reckoned_56 : decode b_Runner_reckoned 56 = .ok (.iload_n 2, 1) := by decide +kernel
theorem d_Runner_reckoned_57 : decode b_Runner_reckoned 57 = .ok (.if_icmp .ge 7, 3) := by decide +kernel
theorem d_Runner_reckoned_64 : decode b_Runner_reckoned 64 = .ok (.iconst 0, 1) := by decide +kernel
theorem d_Runner_reckoned_65 : decode b_Runner_reckoned 65 = .ok (.ireturn, 1) := by decide +kernel
theorem d_Runner_reckoned_60 : decode b_Runner_reckoned 60 = .ok (.iconst 1, 1) := by decide +kernel
theorem d_Runner_reckoned_61 : decode b_Runner_reckoned 61 = .ok (.goto 4, 3) := by decide +kernel
theorem d_Runner_reckoned_66 : decode b_Runner_reckoned 66 = .ok (.iload_n 1, 1) := by decide +kernel
theorem d_Runner_reckoned_67 : decode b_Runner_reckoned 67 = .ok (.iload_n 2, 1) := by decide +kernel
theorem d_Runner_reckoned_68 : decode b_Runner_reckoned 68 = .ok (.iadd, 1) := by decide +kernel
theorem d_Runner_reckoned_69 : decode b_Runner_reckoned 69 = .ok (.bipush 64, 2) := by decide +kernel
theorem d_Runner_reckoned_71 : decode b_Runner_reckoned 71 = .ok (.irem, 1) := by decide +kernel
theorem d_Runner_reckoned_72 : decode b_Runner_reckoned 72 = .ok (.ireturn, 1) := by decide +kernel
theorem d_Runner_reckoned_73 : decode b_Runner_reckoned 73 = .ok (.iload_n 1, 1) := by decide +kernel
theorem d_Runner_reckoned_74 : decode b_Runner_reckoned 74 = .ok (.iload_n 2, 1) := by decide +kernel
theorem d_Runner_reckoned_75 : decode b_Runner_reckoned 75 = .ok (.isub, 1) := by decide +kernel
theorem d_Runner_reckoned_76 : decode b_Runner_reckoned 76 = .ok (.bipush 64, 2) := by decide +kernel
theorem d_Runner_reckoned_78 : decode b_Runner_reckoned 78 = .ok (.iadd, 1) := by decide +kernel
theorem d_Runner_reckoned_79 : decode b_Runner_reckoned 79 = .ok (.bipush 64, 2) := by decide +kernel
theorem d_Runner_reckoned_81 : decode b_Runner_reckoned 81 = .ok (.irem, 1) := by decide +kernel
theorem d_Runner_reckoned_82 : decode b_Runner_reckoned 82 = .ok (.ireturn, 1) := by decide +kernel
theorem d_Runner_reckoned_83 : decode b_Runner_reckoned 83 = .ok (.iload_n 1, 1) := by decide +kernel
theorem d_Runner_reckoned_84 : decode b_Runner_reckoned 84 = .ok (.iload_n 2, 1) := by decide +kernel
theorem d_Runner_reckoned_85 : decode b_Runner_reckoned 85 = .ok (.imul, 1) := by decide +kernel
theorem d_Runner_reckoned_86 : decode b_Runner_reckoned 86 = .ok (.bipush 64, 2) := by decide +kernel
theorem d_Runner_reckoned_88 : decode b_Runner_reckoned 88 = .ok (.irem, 1) := by decide +kernel
theorem d_Runner_reckoned_89 : decode b_Runner_reckoned 89 = .ok (.ireturn, 1) := by decide +kernel
theorem d_Runner_reckoned_90 : decode b_Runner_reckoned 90 = .ok (.iload_n 2, 1) := by decide +kernel
theorem d_Runner_reckoned_91 : decode b_Runner_reckoned 91 = .ok (.ifCond .ne 7, 3) := by decide +kernel
theorem d_Runner_reckoned_98 : decode b_Runner_reckoned 98 = .ok (.iload_n 1, 1) := by decide +kernel
theorem d_Runner_reckoned_99 : decode b_Runner_reckoned 99 = .ok (.iload_n 2, 1) := by decide +kernel
theorem d_Runner_reckoned_100 : decode b_Runner_reckoned 100 = .ok (.idiv, 1) := by decide +kernel
theorem d_Runner_reckoned_101 : decode b_Runner_reckoned 101 = .ok (.ireturn, 1) := by decide +kernel
theorem d_Runner_reckoned_94 : decode b_Runner_reckoned 94 = .ok (.iconst 0, 1) := by decide +kernel
theorem d_Runner_reckoned_95 : decode b_Runner_reckoned 95 = .ok (.goto 6, 3) := by decide +kernel
theorem d_Runner_reckoned_102 : decode b_Runner_reckoned 102 = .ok (.iload_n 2, 1) := by decide +kernel
theorem d_Runner_reckoned_103 : decode b_Runner_reckoned 103 = .ok (.ifCond .ne 7, 3) := by decide +kernel
theorem d_Runner_reckoned_110 : decode b_Runner_reckoned 110 = .ok (.iload_n 1, 1) := by decide +kernel
theorem d_Runner_reckoned_111 : decode b_Runner_reckoned 111 = .ok (.iload_n 2, 1) := by decide +kernel
theorem d_Runner_reckoned_112 : decode b_Runner_reckoned 112 = .ok (.irem, 1) := by decide +kernel
theorem d_Runner_reckoned_113 : decode b_Runner_reckoned 113 = .ok (.ireturn, 1) := by decide +kernel
theorem d_Runner_reckoned_106 : decode b_Runner_reckoned 106 = .ok (.iconst 0, 1) := by decide +kernel
theorem d_Runner_reckoned_107 : decode b_Runner_reckoned 107 = .ok (.goto 6, 3) := by decide +kernel
theorem d_Runner_reckoned_114 : decode b_Runner_reckoned 114 = .ok (.iload_n 1, 1) := by decide +kernel
theorem d_Runner_reckoned_115 : decode b_Runner_reckoned 115 = .ok (.iload_n 2, 1) := by decide +kernel
theorem d_Runner_reckoned_116 : decode b_Runner_reckoned 116 = .ok (.iand, 1) := by decide +kernel
theorem d_Runner_reckoned_117 : decode b_Runner_reckoned 117 = .ok (.ireturn, 1) := by decide +kernel
theorem d_Runner_push_0 : decode b_Runner_push 0 = .ok (.aload_n 0, 1) := by decide +kernel
theorem d_Runner_push_1 : decode b_Runner_push 1 = .ok (.getfield 21, 3) := by decide +kernel
theorem d_Runner_push_4 : decode b_Runner_push 4 = .ok (.aload_n 0, 1) := by decide +kernel
theorem d_Runner_push_5 : decode b_Runner_push 5 = .ok (.getfield 88, 3) := by decide +kernel
theorem d_Runner_push_8 : decode b_Runner_push 8 = .ok (.iload_n 1, 1) := by decide +kernel
theorem d_Runner_push_9 : decode b_Runner_push 9 = .ok (.iastore, 1) := by decide +kernel
theorem d_Runner_push_10 : decode b_Runner_push 10 = .ok (.aload_n 0, 1) := by decide +kernel
theorem d_Runner_push_11 : decode b_Runner_push 11 = .ok (.dup, 1) := by decide +kernel
theorem d_Runner_push_12 : decode b_Runner_push 12 = .ok (.getfield 88, 3) := by decide +kernel
theorem d_Runner_push_15 : decode b_Runner_push 15 = .ok (.iconst 1, 1) := by decide +kernel
theorem d_Runner_push_16 : decode b_Runner_push 16 = .ok (.iadd, 1) := by decide +kernel
theorem d_Runner_push_17 : decode b_Runner_push 17 = .ok (.putfield 88, 3) := by decide +kernel
theorem d_Runner_push_20 : decode b_Runner_push 20 = .ok (.return_, 1) := by decide +kernel
theorem d_Runner_reckon_32 : decode b_Runner_reckon 32 = .ok (.aload_n 0, 1) := by decide +kernel
theorem d_Runner_reckon_33 : decode b_Runner_reckon 33 = .ok (.iload_n 1, 1) := by decide +kernel
theorem d_Runner_reckon_34 : decode b_Runner_reckon 34 = .ok (.iload_n 3, 1) := by decide +kernel
theorem d_Runner_reckon_35 : decode b_Runner_reckon 35 = .ok (.iload_n 2, 1) := by decide +kernel
theorem d_Runner_reckon_36 : decode b_Runner_reckon 36 = .ok (.invokestatic 158, 3) := by decide +kernel
theorem d_Runner_reckon_39 : decode b_Runner_reckon 39 = .ok (.invokevirtual 138, 3) := by decide +kernel
theorem d_Runner_reckon_42 : decode b_Runner_reckon 42 = .ok (.return_, 1) := by decide +kernel
theorem d_Runner_reckon_0 : decode b_Runner_reckon 0 = .ok (.aload_n 0, 1) := by decide +kernel
theorem d_Runner_reckon_1 : decode b_Runner_reckon 1 = .ok (.invokevirtual 103, 3) := by decide +kernel
theorem d_Runner_reckon_4 : decode b_Runner_reckon 4 = .ok (.istore_n 2, 1) := by decide +kernel
theorem d_Runner_reckon_5 : decode b_Runner_reckon 5 = .ok (.aload_n 0, 1) := by decide +kernel
theorem d_Runner_reckon_6 : decode b_Runner_reckon 6 = .ok (.invokevirtual 103, 3) := by decide +kernel
theorem d_Runner_reckon_9 : decode b_Runner_reckon 9 = .ok (.istore_n 3, 1) := by decide +kernel
theorem d_Runner_reckon_10 : decode b_Runner_reckon 10 = .ok (.iload_n 2, 1) := by decide +kernel
theorem d_Runner_reckon_11 : decode b_Runner_reckon 11 = .ok (.ifCond .ne 21, 3) := by decide +kernel
theorem d_Runner_reckon_14 : decode b_Runner_reckon 14 = .ok (.iload_n 1, 1) := by decide +kernel
theorem d_Runner_reckon_15 : decode b_Runner_reckon 15 = .ok (.bipush 24, 2) := by decide +kernel
theorem d_Runner_reckon_17 : decode b_Runner_reckon 17 = .ok (.if_icmp .eq 9, 3) := by decide +kernel
theorem d_Runner_reckon_26 : decode b_Runner_reckon 26 = .ok (.aload_n 0, 1) := by decide +kernel
theorem d_Runner_reckon_27 : decode b_Runner_reckon 27 = .ok (.iconst 3, 1) := by decide +kernel
theorem d_Runner_reckon_28 : decode b_Runner_reckon 28 = .ok (.putfield 55, 3) := by decide +kernel
theorem d_Runner_reckon_31 : decode b_Runner_reckon 31 = .ok (.return_, 1) := by decide +kernel
theorem d_Runner_reckon_20 : decode b_Runner_reckon 20 = .ok (.iload_n 1, 1) := by decide +kernel
theorem d_Runner_reckon_21 : decode b_Runner_reckon 21 = .ok (.bipush 25, 2) := by decide +kernel
theorem d_Runner_reckon_23 : decode b_Runner_reckon 23 = .ok (.if_icmp .ne 9, 3) := by decide +kernel
theorem d_Runner_putOut_19 : decode b_Runner_putOut 19 = .ok (.aload_n 0, 1) := by decide +kernel
theorem d_Runner_putOut_20 : decode b_Runner_putOut 20 = .ok (.dup, 1) := by decide +kernel
theorem d_Runner_putOut_21 : decode b_Runner_putOut 21 = .ok (.getfield 77, 3) := by decide +kernel
theorem d_Runner_putOut_24 : decode b_Runner_putOut 24 = .ok (.iconst 1, 1) := by decide +kernel
theorem d_Runner_putOut_25 : decode b_Runner_putOut 25 = .ok (.iadd, 1) := by decide +kernel
theorem d_Runner_putOut_26 : decode b_Runner_putOut 26 = .ok (.putfield 77, 3) := by decide +kernel
theorem d_Runner_putOut_29 : decode b_Runner_putOut 29 = .ok (.return_, 1) := by decide +kernel
theorem d_Runner_putOut_0 : decode b_Runner_putOut 0 = .ok (.aload_n 0, 1) := by decide +kernel
theorem d_Runner_putOut_1 : decode b_Runner_putOut 1 = .ok (.getfield 77, 3) := by decide +kernel
theorem d_Runner_putOut_4 : decode b_Runner_putOut 4 = .ok (.bipush 20, 2) := by decide +kernel
theorem d_Runner_putOut_6 : decode b_Runner_putOut 6 = .ok (.if_icmp .ge 13, 3) := by decide +kernel
theorem d_Runner_putOut_9 : decode b_Runner_putOut 9 = .ok (.aload_n 0, 1) := by decide +kernel
theorem d_Runner_putOut_10 : decode b_Runner_putOut 10 = .ok (.getfield 18, 3) := by decide +kernel
theorem d_Runner_putOut_13 : decode b_Runner_putOut 13 = .ok (.aload_n 0, 1) := by decide +kernel
theorem d_Runner_putOut_14 : decode b_Runner_putOut 14 = .ok (.getfield 77, 3) := by decide +kernel
theorem d_Runner_putOut_17 : decode b_Runner_putOut 17 = .ok (.iload_n 1, 1) := by decide +kernel
theorem d_Runner_putOut_18 : decode b_Runner_putOut 18 = .ok (.iastore, 1) := by decide +kernel
theorem d_Runner_takeInput_0 : decode b_Runner_takeInput 0 = .ok (.aload_n 0, 1) := by decide +kernel
theorem d_Runner_takeInput_1 : decode b_Runner_takeInput 1 = .ok (.getfield 80, 3) := by decide +kernel
theorem d_Runner_takeInput_4 : decode b_Runner_takeInput 4 = .ok (.aload_n 0, 1) := by decide +kernel
theorem d_Runner_takeInput_5 : decode b_Runner_takeInput 5 = .ok (.getfield 41, 3) := by decide +kernel
theorem d_Runner_takeInput_8 : decode b_Runner_takeInput 8 = .ok (.if_icmp .ge 29, 3) := by decide +kernel
theorem d_Runner_takeInput_37 : decode b_Runner_takeInput 37 = .ok (.aload_n 0, 1) := by decide +kernel
theorem d_Runner_takeInput_38 : decode b_Runner_takeInput 38 = .ok (.iconst 0, 1) := by decide +kernel
theorem d_Runner_takeInput_39 : decode b_Runner_takeInput 39 = .ok (.invokevirtual 138, 3) := by decide +kernel
theorem d_Runner_takeInput_42 : decode b_Runner_takeInput 42 = .ok (.return_, 1) := by decide +kernel
theorem d_Runner_takeInput_11 : decode b_Runner_takeInput 11 = .ok (.aload_n 0, 1) := by decide +kernel
theorem d_Runner_takeInput_12 : decode b_Runner_takeInput 12 = .ok (.aload_n 0, 1) := by decide +kernel
theorem d_Runner_takeInput_13 : decode b_Runner_takeInput 13 = .ok (.getfield 9, 3) := by decide +kernel
theorem d_Runner_takeInput_16 : decode b_Runner_takeInput 16 = .ok (.aload_n 0, 1) := by decide +kernel
theorem d_Runner_takeInput_17 : decode b_Runner_takeInput 17 = .ok (.getfield 80, 3) := by decide +kernel
theorem d_Runner_takeInput_20 : decode b_Runner_takeInput 20 = .ok (.iaload, 1) := by decide +kernel
theorem d_Runner_takeInput_21 : decode b_Runner_takeInput 21 = .ok (.invokevirtual 138, 3) := by decide +kernel
theorem d_Runner_takeInput_24 : decode b_Runner_takeInput 24 = .ok (.aload_n 0, 1) := by decide +kernel
theorem d_Runner_takeInput_25 : decode b_Runner_takeInput 25 = .ok (.dup, 1) := by decide +kernel
theorem d_Runner_takeInput_26 : decode b_Runner_takeInput 26 = .ok (.getfield 80, 3) := by decide +kernel
theorem d_Runner_takeInput_29 : decode b_Runner_takeInput 29 = .ok (.iconst 1, 1) := by decide +kernel
theorem d_Runner_takeInput_30 : decode b_Runner_takeInput 30 = .ok (.iadd, 1) := by decide +kernel
theorem d_Runner_takeInput_31 : decode b_Runner_takeInput 31 = .ok (.putfield 80, 3) := by decide +kernel
theorem d_Runner_takeInput_34 : decode b_Runner_takeInput 34 = .ok (.goto 8, 3) := by decide +kernel
theorem d_Runner_store_0 : decode b_Runner_store 0 = .ok (.aload_n 0, 1) := by decide +kernel
theorem d_Runner_store_1 : decode b_Runner_store 1 = .ok (.invokevirtual 103, 3) := by decide +kernel
theorem d_Runner_store_4 : decode b_Runner_store 4 = .ok (.istore_n 2, 1) := by decide +kernel
theorem d_Runner_store_5 : decode b_Runner_store 5 = .ok (.aload_n 0, 1) := by decide +kernel
theorem d_Runner_store_6 : decode b_Runner_store 6 = .ok (.invokevirtual 103, 3) := by decide +kernel
theorem d_Runner_store_9 : decode b_Runner_store 9 = .ok (.iload_n 1, 1) := by decide +kernel
theorem d_Runner_store_10 : decode b_Runner_store 10 = .ok (.iadd, 1) := by decide +kernel
theorem d_Runner_store_11 : decode b_Runner_store 11 = .ok (.istore_n 3, 1) := by decide +kernel
theorem d_Runner_store_12 : decode b_Runner_store 12 = .ok (.iload_n 3, 1) := by decide +kernel
theorem d_Runner_store_13 : decode b_Runner_store 13 = .ok (.bipush 16, 2) := by decide +kernel
theorem d_Runner_store_15 : decode b_Runner_store 15 = .ok (.if_icmp .lt 11, 3) := by decide +kernel
theorem d_Runner_store_26 : decode b_Runner_store 26 = .ok (.aload_n 0, 1) := by decide +kernel
theorem d_Runner_store_27 : decode b_Runner_store 27 = .ok (.getfield 15, 3) := by decide +kernel
theorem d_Runner_store_30 : decode b_Runner_store 30 = .ok (.iload_n 3, 1) := by decide +kernel
theorem d_Runner_store_31 : decode b_Runner_store 31 = .ok (.iload_n 2, 1) := by decide +kernel
theorem d_Runner_store_32 : decode b_Runner_store 32 = .ok (.iastore, 1) := by decide +kernel
theorem d_Runner_store_33 : decode b_Runner_store 33 = .ok (.return_, 1) := by decide +kernel
theorem d_Runner_store_18 : decode b_Runner_store 18 = .ok (.aload_n 0, 1) := by decide +kernel
theorem d_Runner_store_19 : decode b_Runner_store 19 = .ok (.iconst 2, 1) := by decide +kernel
theorem d_Runner_store_20 : decode b_Runner_store 20 = .ok (.putfield 55, 3) := by decide +kernel
theorem d_Runner_store_23 : decode b_Runner_store 23 = .ok (.goto 10, 3) := by decide +kernel
theorem d_Runner_fetch_0 : decode b_Runner_fetch 0 = .ok (.aload_n 0, 1) := by decide +kernel
theorem d_Runner_fetch_1 : decode b_Runner_fetch 1 = .ok (.invokevirtual 103, 3) := by decide +kernel
theorem d_Runner_fetch_4 : decode b_Runner_fetch 4 = .ok (.iload_n 1, 1) := by decide +kernel
theorem d_Runner_fetch_5 : decode b_Runner_fetch 5 = .ok (.iadd, 1) := by decide +kernel
theorem d_Runner_fetch_6 : decode b_Runner_fetch 6 = .ok (.istore_n 2, 1) := by decide +kernel
theorem d_Runner_fetch_7 : decode b_Runner_fetch 7 = .ok (.iload_n 2, 1) := by decide +kernel
theorem d_Runner_fetch_8 : decode b_Runner_fetch 8 = .ok (.bipush 16, 2) := by decide +kernel
theorem d_Runner_fetch_10 : decode b_Runner_fetch 10 = .ok (.if_icmp .lt 11, 3) := by decide +kernel
theorem d_Runner_fetch_21 : decode b_Runner_fetch 21 = .ok (.aload_n 0, 1) := by decide +kernel
theorem d_Runner_fetch_22 : decode b_Runner_fetch 22 = .ok (.aload_n 0, 1) := by decide +kernel
theorem d_Runner_fetch_23 : decode b_Runner_fetch 23 = .ok (.getfield 15, 3) := by decide +kernel
theorem d_Runner_fetch_26 : decode b_Runner_fetch 26 = .ok (.iload_n 2, 1) := by decide +kernel
theorem d_Runner_fetch_27 : decode b_Runner_fetch 27 = .ok (.iaload, 1) := by decide +kernel
theorem d_Runner_fetch_28 : decode b_Runner_fetch 28 = .ok (.invokevirtual 138, 3) := by decide +kernel
theorem d_Runner_fetch_31 : decode b_Runner_fetch 31 = .ok (.return_, 1) := by decide +kernel
theorem d_Runner_fetch_13 : decode b_Runner_fetch 13 = .ok (.aload_n 0, 1) := by decide +kernel
theorem d_Runner_fetch_14 : decode b_Runner_fetch 14 = .ok (.iconst 2, 1) := by decide +kernel
theorem d_Runner_fetch_15 : decode b_Runner_fetch 15 = .ok (.putfield 55, 3) := by decide +kernel
theorem d_Runner_fetch_18 : decode b_Runner_fetch 18 = .ok (.goto 13, 3) := by decide +kernel
theorem d_Runner_pick_25 : decode b_Runner_pick 25 = .ok (.invokevirtual 138, 3) := by decide +kernel
theorem d_Runner_pick_28 : decode b_Runner_pick 28 = .ok (.return_, 1) := by decide +kernel
theorem d_Runner_pick_0 : decode b_Runner_pick 0 = .ok (.aload_n 0, 1) := by decide +kernel
theorem d_Runner_pick_1 : decode b_Runner_pick 1 = .ok (.invokevirtual 103, 3) := by decide +kernel
theorem d_Runner_pick_4 : decode b_Runner_pick 4 = .ok (.istore_n 1, 1) := by decide +kernel
theorem d_Runner_pick_5 : decode b_Runner_pick 5 = .ok (.aload_n 0, 1) := by decide +kernel
theorem d_Runner_pick_6 : decode b_Runner_pick 6 = .ok (.invokevirtual 103, 3) := by decide +kernel
theorem d_Runner_pick_9 : decode b_Runner_pick 9 = .ok (.istore_n 2, 1) := by decide +kernel
theorem d_Runner_pick_10 : decode b_Runner_pick 10 = .ok (.aload_n 0, 1) := by decide +kernel
theorem d_Runner_pick_11 : decode b_Runner_pick 11 = .ok (.invokevirtual 103, 3) := by decide +kernel
theorem d_Runner_pick_14 : decode b_Runner_pick 14 = .ok (.istore_n 3, 1) := by decide +kernel
theorem d_Runner_pick_15 : decode b_Runner_pick 15 = .ok (.aload_n 0, 1) := by decide +kernel
theorem d_Runner_pick_16 : decode b_Runner_pick 16 = .ok (.iload_n 1, 1) := by decide +kernel
theorem d_Runner_pick_17 : decode b_Runner_pick 17 = .ok (.ifCond .eq 7, 3) := by decide +kernel
theorem d_Runner_pick_24 : decode b_Runner_pick 24 = .ok (.iload_n 2, 1) := by decide +kernel
theorem d_Runner_pick_20 : decode b_Runner_pick 20 = .ok (.iload_n 3, 1) := by decide +kernel
theorem d_Runner_pick_21 : decode b_Runner_pick 21 = .ok (.goto 4, 3) := by decide +kernel
theorem d_Runner_operate_203 : decode b_Runner_operate 203 = .ok (.invokevirtual 138, 3) := by decide +kernel
theorem d_Runner_operate_206 : decode b_Runner_operate 206 = .ok (.goto 26, 3) := by decide +kernel
theorem d_Runner_operate_232 : decode b_Runner_operate 232 = .ok (.return_, 1) := by decide +kernel
theorem d_Runner_operate_0 : decode b_Runner_operate 0 = .ok (.aload_n 0, 1) := by decide +kernel
theorem d_Runner_operate_1 : decode b_Runner_operate 1 = .ok (.getfield 91, 3) := by decide +kernel
theorem d_Runner_operate_4 : decode b_Runner_operate 4 = .ok (.iconst 4, 1) := by decide +kernel
theorem d_Runner_operate_5 : decode b_Runner_operate 5 = .ok (.imul, 1) := by decide +kernel
theorem d_Runner_operate_6 : decode b_Runner_operate 6 = .ok (.iload_n 2, 1) := by decide +kernel
theorem d_Runner_operate_7 : decode b_Runner_operate 7 = .ok (.iadd, 1) := by decide +kernel
theorem d_Runner_operate_8 : decode b_Runner_operate 8 = .ok (.istore_n 3, 1) := by decide +kernel
theorem d_Runner_operate_9 : decode b_Runner_operate 9 = .ok (.iload_n 1, 1) := by decide +kernel
theorem d_Runner_operate_10 : decode b_Runner_operate 10 = .ok (.tableswitch 217 10 28 #[90, 103, 110, 123, 136, 156, 164, 172, 180, 217, 217, 217, 217, 217, 217, 217, 217, 199, 206], 90) := by decide +kernel
theorem d_Runner_operate_100 : decode b_Runner_operate 100 = .ok (.aload_n 0, 1) := by decide +kernel
theorem d_Runner_operate_101 : decode b_Runner_operate 101 = .ok (.dup, 1) := by decide +kernel
theorem d_Runner_operate_102 : decode b_Runner_operate 102 = .ok (.getfield 88, 3) := by decide +kernel
theorem d_Runner_operate_105 : decode b_Runner_operate 105 = .ok (.iconst 1, 1) := by decide +kernel
theorem d_Runner_operate_106 : decode b_Runner_operate 106 = .ok (.isub, 1) := by decide +kernel
theorem d_Runner_operate_107 : decode b_Runner_operate 107 = .ok (.putfield 88, 3) := by decide +kernel
theorem d_Runner_operate_110 : decode b_Runner_operate 110 = .ok (.goto 122, 3) := by decide +kernel
theorem d_Runner_operate_113 : decode b_Runner_operate 113 = .ok (.aload_n 0, 1) := by decide +kernel
theorem d_Runner_operate_114 : decode b_Runner_operate 114 = .ok (.invokevirtual 135, 3) := by decide +kernel
theorem d_Runner_operate_117 : decode b_Runner_operate 117 = .ok (.goto 115, 3) := by decide +kernel
theorem d_Runner_operate_120 : decode b_Runner_operate 120 = .ok (.aload_n 0, 1) := by decide +kernel
theorem d_Runner_operate_121 : decode b_Runner_operate 121 = .ok (.aload_n 0, 1) := by decide +kernel
theorem d_Runner_operate_122 : decode b_Runner_operate 122 = .ok (.getfield 24, 3) := by decide +kernel
theorem d_Runner_operate_125 : decode b_Runner_operate 125 = .ok (.iload_n 3, 1) := by decide +kernel
theorem d_Runner_operate_126 : decode b_Runner_operate 126 = .ok (.iaload, 1) := by decide +kernel
theorem d_Runner_operate_127 : decode b_Runner_operate 127 = .ok (.invokevirtual 138, 3) := by decide +kernel
theorem d_Runner_operate_130 : decode b_Runner_operate 130 = .ok (.goto 102, 3) := by decide +kernel
theorem d_Runner_operate_133 : decode b_Runner_operate 133 = .ok (.aload_n 0, 1) := by decide +kernel
theorem d_Runner_operate_134 : decode b_Runner_operate 134 = .ok (.getfield 24, 3) := by decide +kernel
theorem d_Runner_operate_137 : decode b_Runner_operate 137 = .ok (.iload_n 3, 1) := by decide +kernel
theorem d_Runner_operate_138 : decode b_Runner_operate 138 = .ok (.aload_n 0, 1) := by decide +kernel
theorem d_Runner_operate_139 : decode b_Runner_operate 139 = .ok (.invokevirtual 103, 3) := by decide +kernel
theorem d_Runner_operate_142 : decode b_Runner_operate 142 = .ok (.iastore, 1) := by decide +kernel
theorem d_Runner_operate_143 : decode b_Runner_operate 143 = .ok (.goto 89, 3) := by decide +kernel
theorem d_Runner_operate_146 : decode b_Runner_operate 146 = .ok (.aload_n 0, 1) := by decide +kernel
theorem d_Runner_operate_147 : decode b_Runner_operate 147 = .ok (.getfield 24, 3) := by decide +kernel
theorem d_Runner_operate_150 : decode b_Runner_operate 150 = .ok (.iload_n 3, 1) := by decide +kernel
theorem d_Runner_operate_151 : decode b_Runner_operate 151 = .ok (.aload_n 0, 1) := by decide +kernel
theorem d_Runner_operate_152 : decode b_Runner_operate 152 = .ok (.getfield 21, 3) := by decide +kernel
theorem d_Runner_operate_155 : decode b_Runner_operate 155 = .ok (.aload_n 0, 1) := by decide +kernel
theorem d_Runner_operate_156 : decode b_Runner_operate 156 = .ok (.getfield 88, 3) := by decide +kernel
theorem d_Runner_operate_159 : decode b_Runner_operate 159 = .ok (.iconst 1, 1) := by decide +kernel
theorem d_Runner_operate_160 : decode b_Runner_operate 160 = .ok (.isub, 1) := by decide +kernel
theorem d_Runner_operate_161 : decode b_Runner_operate 161 = .ok (.iaload, 1) := by decide +kernel
theorem d_Runner_operate_162 : decode b_Runner_operate 162 = .ok (.iastore, 1) := by decide +kernel
theorem d_Runner_operate_163 : decode b_Runner_operate 163 = .ok (.goto 69, 3) := by decide +kernel
theorem d_Runner_operate_166 : decode b_Runner_operate 166 = .ok (.aload_n 0, 1) := by decide +kernel
theorem d_Runner_operate_167 : decode b_Runner_operate 167 = .ok (.iload_n 2, 1) := by decide +kernel
theorem d_Runner_operate_168 : decode b_Runner_operate 168 = .ok (.invokevirtual 141, 3) := by decide +kernel
theorem d_Runner_operate_171 : decode b_Runner_operate 171 = .ok (.goto 61, 3) := by decide +kernel
theorem d_Runner_operate_174 : decode b_Runner_operate 174 = .ok (.aload_n 0, 1) := by decide +kernel
theorem d_Runner_operate_175 : decode b_Runner_operate 175 = .ok (.iload_n 2, 1) := by decide +kernel
theorem d_Runner_operate_176 : decode b_Runner_operate 176 = .ok (.invokevirtual 144, 3) := by decide +kernel
theorem d_Runner_operate_179 : decode b_Runner_operate 179 = .ok (.goto 53, 3) := by decide +kernel
theorem d_Runner_operate_182 : decode b_Runner_operate 182 = .ok (.aload_n 0, 1) := by decide +kernel
theorem d_Runner_operate_183 : decode b_Runner_operate 183 = .ok (.iload_n 2, 1) := by decide +kernel
theorem d_Runner_operate_184 : decode b_Runner_operate 184 = .ok (.invokevirtual 138, 3) := by decide +kernel
theorem d_Runner_operate_187 : decode b_Runner_operate 187 = .ok (.goto 45, 3) := by decide +kernel
theorem d_Runner_operate_190 : decode b_Runner_operate 190 = .ok (.aload_n 0, 1) := by decide +kernel
theorem d_Runner_operate_191 : decode b_Runner_operate 191 = .ok (.aload_n 0, 1) := by decide +kernel
theorem d_Runner_operate_192 : decode b_Runner_operate 192 = .ok (.invokevirtual 103, 3) := by decide +kernel
theorem d_Runner_operate_195 : decode b_Runner_operate 195 = .ok (.ifCond .ne 7, 3) := by decide +kernel
theorem d_Runner_operate_202 : decode b_Runner_operate 202 = .ok (.iconst 0, 1) := by decide +kernel
theorem d_Runner_operate_198 : decode b_Runner_operate 198 = .ok (.iconst 1, 1) := by decide +kernel
theorem d_Runner_operate_199 : decode b_Runner_operate 199 = .ok (.goto 4, 3) := by decide +kernel
theorem d_Runner_operate_227 : decode b_Runner_operate 227 = .ok (.aload_n 0, 1) := by decide +kernel
theorem d_Runner_operate_228 : decode b_Runner_operate 228 = .ok (.iload_n 1, 1) := by decide +kernel
theorem d_Runner_operate_229 : decode b_Runner_operate 229 = .ok (.invokevirtual 153, 3) := by decide +kernel
theorem d_Runner_operate_209 : decode b_Runner_operate 209 = .ok (.aload_n 0, 1) := by decide +kernel
theorem d_Runner_operate_210 : decode b_Runner_operate 210 = .ok (.invokevirtual 147, 3) := by decide +kernel
theorem d_Runner_operate_213 : decode b_Runner_operate 213 = .ok (.goto 19, 3) := by decide +kernel
theorem d_Runner_operate_216 : decode b_Runner_operate 216 = .ok (.aload_n 0, 1) := by decide +kernel
theorem d_Runner_operate_217 : decode b_Runner_operate 217 = .ok (.aload_n 0, 1) := by decide +kernel
theorem d_Runner_operate_218 : decode b_Runner_operate 218 = .ok (.invokevirtual 103, 3) := by decide +kernel
theorem d_Runner_operate_221 : decode b_Runner_operate 221 = .ok (.invokevirtual 150, 3) := by decide +kernel
theorem d_Runner_operate_224 : decode b_Runner_operate 224 = .ok (.goto 8, 3) := by decide +kernel
theorem d_Runner_call_0 : decode b_Runner_call 0 = .ok (.aload_n 0, 1) := by decide +kernel
theorem d_Runner_call_1 : decode b_Runner_call 1 = .ok (.getfield 91, 3) := by decide +kernel
theorem d_Runner_call_4 : decode b_Runner_call 4 = .ok (.bipush 6, 2) := by decide +kernel
theorem d_Runner_call_6 : decode b_Runner_call 6 = .ok (.if_icmp .lt 9, 3) := by decide +kernel
theorem d_Runner_call_15 : decode b_Runner_call 15 = .ok (.aload_n 0, 1) := by decide +kernel
theorem d_Runner_call_16 : decode b_Runner_call 16 = .ok (.dup, 1) := by decide +kernel
theorem d_Runner_call_17 : decode b_Runner_call 17 = .ok (.getfield 91, 3) := by decide +kernel
theorem d_Runner_call_20 : decode b_Runner_call 20 = .ok (.iconst 1, 1) := by decide +kernel
theorem d_Runner_call_21 : decode b_Runner_call 21 = .ok (.iadd, 1) := by decide +kernel
theorem d_Runner_call_22 : decode b_Runner_call 22 = .ok (.putfield 91, 3) := by decide +kernel
theorem d_Runner_call_25 : decode b_Runner_call 25 = .ok (.aload_n 0, 1) := by decide +kernel
theorem d_Runner_call_26 : decode b_Runner_call 26 = .ok (.getfield 30, 3) := by decide +kernel
theorem d_Runner_call_29 : decode b_Runner_call 29 = .ok (.aload_n 0, 1) := by decide +kernel
theorem d_Runner_call_30 : decode b_Runner_call 30 = .ok (.getfield 91, 3) := by decide +kernel
theorem d_Runner_call_33 : decode b_Runner_call 33 = .ok (.iload_n 1, 1) := by decide +kernel
theorem d_Runner_call_34 : decode b_Runner_call 34 = .ok (.iastore, 1) := by decide +kernel
theorem d_Runner_call_35 : decode b_Runner_call 35 = .ok (.aload_n 0, 1) := by decide +kernel
theorem d_Runner_call_36 : decode b_Runner_call 36 = .ok (.aload_n 0, 1) := by decide +kernel
theorem d_Runner_call_37 : decode b_Runner_call 37 = .ok (.getfield 33, 3) := by decide +kernel
theorem d_Runner_call_40 : decode b_Runner_call 40 = .ok (.getfield 117, 3) := by decide +kernel
theorem d_Runner_call_43 : decode b_Runner_call 43 = .ok (.iload_n 1, 1) := by decide +kernel
theorem d_Runner_call_44 : decode b_Runner_call 44 = .ok (.iaload, 1) := by decide +kernel
theorem d_Runner_call_45 : decode b_Runner_call 45 = .ok (.invokevirtual 94, 3) := by decide +kernel
theorem d_Runner_call_48 : decode b_Runner_call 48 = .ok (.return_, 1) := by decide +kernel
theorem d_Runner_call_9 : decode b_Runner_call 9 = .ok (.aload_n 0, 1) := by decide +kernel
theorem d_Runner_call_10 : decode b_Runner_call 10 = .ok (.iconst 4, 1) := by decide +kernel
theorem d_Runner_call_11 : decode b_Runner_call 11 = .ok (.putfield 55, 3) := by decide +kernel
theorem d_Runner_call_14 : decode b_Runner_call 14 = .ok (.return_, 1) := by decide +kernel
theorem d_Runner_leave_0 : decode b_Runner_leave 0 = .ok (.aload_n 0, 1) := by decide +kernel
theorem d_Runner_leave_1 : decode b_Runner_leave 1 = .ok (.getfield 91, 3) := by decide +kernel
theorem d_Runner_leave_4 : decode b_Runner_leave 4 = .ok (.ifCond .le 29, 3) := by decide +kernel
theorem d_Runner_leave_33 : decode b_Runner_leave 33 = .ok (.aload_n 0, 1) := by decide +kernel
theorem d_Runner_leave_34 : decode b_Runner_leave 34 = .ok (.iconst 0, 1) := by decide +kernel
theorem d_Runner_leave_35 : decode b_Runner_leave 35 = .ok (.putfield 55, 3) := by decide +kernel
theorem d_Runner_leave_38 : decode b_Runner_leave 38 = .ok (.iload_n 1, 1) := by decide +kernel
theorem d_Runner_leave_39 : decode b_Runner_leave 39 = .ok (.iconst 1, 1) := by decide +kernel
theorem d_Runner_leave_40 : decode b_Runner_leave 40 = .ok (.if_icmp .ne 11, 3) := by decide +kernel
theorem d_Runner_leave_51 : decode b_Runner_leave 51 = .ok (.return_, 1) := by decide +kernel
theorem d_Runner_leave_43 : decode b_Runner_leave 43 = .ok (.aload_n 0, 1) := by decide +kernel
theorem d_Runner_leave_44 : decode b_Runner_leave 44 = .ok (.aload_n 0, 1) := by decide +kernel
theorem d_Runner_leave_45 : decode b_Runner_leave 45 = .ok (.invokevirtual 103, 3) := by decide +kernel
theorem d_Runner_leave_48 : decode b_Runner_leave 48 = .ok (.putfield 74, 3) := by decide +kernel
theorem d_Runner_leave_7 : decode b_Runner_leave 7 = .ok (.aload_n 0, 1) := by decide +kernel
theorem d_Runner_leave_8 : decode b_Runner_leave 8 = .ok (.aload_n 0, 1) := by decide +kernel
theorem d_Runner_leave_9 : decode b_Runner_leave 9 = .ok (.getfield 30, 3) := by decide +kernel
theorem d_Runner_leave_12 : decode b_Runner_leave 12 = .ok (.aload_n 0, 1) := by decide +kernel
theorem d_Runner_leave_13 : decode b_Runner_leave 13 = .ok (.getfield 91, 3) := by decide +kernel
theorem d_Runner_leave_16 : decode b_Runner_leave 16 = .ok (.iaload, 1) := by decide +kernel
theorem d_Runner_leave_17 : decode b_Runner_leave 17 = .ok (.iconst 1, 1) := by decide +kernel
theorem d_Runner_leave_18 : decode b_Runner_leave 18 = .ok (.iadd, 1) := by decide +kernel
theorem d_Runner_leave_19 : decode b_Runner_leave 19 = .ok (.putfield 61, 3) := by decide +kernel
theorem d_Runner_leave_22 : decode b_Runner_leave 22 = .ok (.aload_n 0, 1) := by decide +kernel
theorem d_Runner_leave_23 : decode b_Runner_leave 23 = .ok (.dup, 1) := by decide +kernel
theorem d_Runner_leave_24 : decode b_Runner_leave 24 = .ok (.getfield 91, 3) := by decide +kernel
theorem d_Runner_leave_27 : decode b_Runner_leave 27 = .ok (.iconst 1, 1) := by decide +kernel
theorem d_Runner_leave_28 : decode b_Runner_leave 28 = .ok (.isub, 1) := by decide +kernel
theorem d_Runner_leave_29 : decode b_Runner_leave 29 = .ok (.putfield 91, 3) := by decide +kernel
theorem d_Runner_leave_32 : decode b_Runner_leave 32 = .ok (.return_, 1) := by decide +kernel
theorem d_Runner_jump_50 : decode b_Runner_jump 50 = .ok (.aload_n 0, 1) := by decide +kernel
theorem d_Runner_jump_51 : decode b_Runner_jump 51 = .ok (.iload_n 2, 1) := by decide +kernel
theorem d_Runner_jump_52 : decode b_Runner_jump 52 = .ok (.aload_n 0, 1) := by decide +kernel
theorem d_Runner_jump_53 : decode b_Runner_jump 53 = .ok (.getfield 33, 3) := by decide +kernel
theorem d_Runner_jump_56 : decode b_Runner_jump 56 = .ok (.getfield 126, 3) := by decide +kernel
theorem d_Runner_jump_59 : decode b_Runner_jump 59 = .ok (.iload_n 1, 1) := by decide +kernel
theorem d_Runner_jump_60 : decode b_Runner_jump 60 = .ok (.iaload, 1) := by decide +kernel
theorem d_Runner_jump_61 : decode b_Runner_jump 61 = .ok (.iadd, 1) := by decide +kernel
theorem d_Runner_jump_62 : decode b_Runner_jump 62 = .ok (.putfield 88, 3) := by decide +kernel
theorem d_Runner_jump_65 : decode b_Runner_jump 65 = .ok (.aload_n 0, 1) := by decide +kernel
theorem d_Runner_jump_66 : decode b_Runner_jump 66 = .ok (.getfield 33, 3) := by decide +kernel
theorem d_Runner_jump_69 : decode b_Runner_jump 69 = .ok (.getfield 129, 3) := by decide +kernel
theorem d_Runner_jump_72 : decode b_Runner_jump 72 = .ok (.iload_n 1, 1) := by decide +kernel
theorem d_Runner_jump_73 : decode b_Runner_jump 73 = .ok (.iaload, 1) := by decide +kernel
theorem d_Runner_jump_74 : decode b_Runner_jump 74 = .ok (.iconst (-1), 1) := by decide +kernel
theorem d_Runner_jump_75 : decode b_Runner_jump 75 = .ok (.if_icmp .ne 19, 3) := by decide +kernel
theorem d_Runner_jump_94 : decode b_Runner_jump 94 = .ok (.aload_n 0, 1) := by decide +kernel
theorem d_Runner_jump_95 : decode b_Runner_jump 95 = .ok (.aload_n 0, 1) := by decide +kernel
theorem d_Runner_jump_96 : decode b_Runner_jump 96 = .ok (.getfield 33, 3) := by decide +kernel
theorem d_Runner_jump_99 : decode b_Runner_jump 99 = .ok (.getfield 129, 3) := by decide +kernel
theorem d_Runner_jump_102 : decode b_Runner_jump 102 = .ok (.iload_n 1, 1) := by decide +kernel
theorem d_Runner_jump_103 : decode b_Runner_jump 103 = .ok (.iaload, 1) := by decide +kernel
theorem d_Runner_jump_104 : decode b_Runner_jump 104 = .ok (.putfield 61, 3) := by decide +kernel
theorem d_Runner_jump_107 : decode b_Runner_jump 107 = .ok (.return_, 1) := by decide +kernel
theorem d_Runner_jump_78 : decode b_Runner_jump 78 = .ok (.aload_n 0, 1) := by decide +kernel
theorem d_Runner_jump_79 : decode b_Runner_jump 79 = .ok (.aload_n 0, 1) := by decide +kernel
theorem d_Runner_jump_80 : decode b_Runner_jump 80 = .ok (.getfield 33, 3) := by decide +kernel
theorem d_Runner_jump_83 : decode b_Runner_jump 83 = .ok (.getfield 126, 3) := by decide +kernel
theorem d_Runner_jump_86 : decode b_Runner_jump 86 = .ok (.iload_n 1, 1) := by decide +kernel
theorem d_Runner_jump_87 : decode b_Runner_jump 87 = .ok (.iaload, 1) := by decide +kernel
theorem d_Runner_jump_88 : decode b_Runner_jump 88 = .ok (.invokevirtual 132, 3) := by decide +kernel
theorem d_Runner_jump_91 : decode b_Runner_jump 91 = .ok (.goto 16, 3) := by decide +kernel
theorem d_Runner_jump_0 : decode b_Runner_jump 0 = .ok (.aload_n 0, 1) := by decide +kernel
theorem d_Runner_jump_1 : decode b_Runner_jump 1 = .ok (.getfield 27, 3) := by decide +kernel
theorem d_Runner_jump_4 : decode b_Runner_jump 4 = .ok (.aload_n 0, 1) := by decide +kernel
theorem d_Runner_jump_5 : decode b_Runner_jump 5 = .ok (.getfield 91, 3) := by decide +kernel
theorem d_Runner_jump_8 : decode b_Runner_jump 8 = .ok (.iaload, 1) := by decide +kernel
theorem d_Runner_jump_9 : decode b_Runner_jump 9 = .ok (.aload_n 0, 1) := by decide +kernel
theorem d_Runner_jump_10 : decode b_Runner_jump 10 = .ok (.getfield 33, 3) := by decide +kernel
theorem d_Runner_jump_13 : decode b_Runner_jump 13 = .ok (.getfield 123, 3) := by decide +kernel
theorem d_Runner_jump_16 : decode b_Runner_jump 16 = .ok (.iload_n 1, 1) := by decide +kernel
theorem d_Runner_jump_17 : decode b_Runner_jump 17 = .ok (.iaload, 1) := by decide +kernel
theorem d_Runner_jump_18 : decode b_Runner_jump 18 = .ok (.iadd, 1) := by decide +kernel
theorem d_Runner_jump_19 : decode b_Runner_jump 19 = .ok (.istore_n 2, 1) := by decide +kernel
theorem d_Runner_jump_20 : decode b_Runner_jump 20 = .ok (.aload_n 0, 1) := by decide +kernel
theorem d_Runner_jump_21 : decode b_Runner_jump 21 = .ok (.getfield 33, 3) := by decide +kernel
theorem d_Runner_jump_24 : decode b_Runner_jump 24 = .ok (.getfield 126, 3) := by decide +kernel
theorem d_Runner_jump_27 : decode b_Runner_jump 27 = .ok (.iload_n 1, 1) := by decide +kernel
theorem d_Runner_jump_28 : decode b_Runner_jump 28 = .ok (.iaload, 1) := by decide +kernel
theorem d_Runner_jump_29 : decode b_Runner_jump 29 = .ok (.iconst 1, 1) := by decide +kernel
theorem d_Runner_jump_30 : decode b_Runner_jump 30 = .ok (.if_icmp .ne 20, 3) := by decide +kernel
theorem d_Runner_jump_33 : decode b_Runner_jump 33 = .ok (.aload_n 0, 1) := by decide +kernel
theorem d_Runner_jump_34 : decode b_Runner_jump 34 = .ok (.getfield 21, 3) := by decide +kernel
theorem d_Runner_jump_37 : decode b_Runner_jump 37 = .ok (.iload_n 2, 1) := by decide +kernel
theorem d_Runner_jump_38 : decode b_Runner_jump 38 = .ok (.aload_n 0, 1) := by decide +kernel
theorem d_Runner_jump_39 : decode b_Runner_jump 39 = .ok (.getfield 21, 3) := by decide +kernel
theorem d_Runner_jump_42 : decode b_Runner_jump 42 = .ok (.aload_n 0, 1) := by decide +kernel
theorem d_Runner_jump_43 : decode b_Runner_jump 43 = .ok (.getfield 88, 3) := by decide +kernel
theorem d_Runner_jump_46 : decode b_Runner_jump 46 = .ok (.iconst 1, 1) := by decide +kernel
theorem d_Runner_jump_47 : decode b_Runner_jump 47 = .ok (.isub, 1) := by decide +kernel
theorem d_Runner_jump_48 : decode b_Runner_jump 48 = .ok (.iaload, 1) := by decide +kernel
theorem d_Runner_jump_49 : decode b_Runner_jump 49 = .ok (.iastore, 1) := by decide +kernel
theorem d_Runner_jumpIf_0 : decode b_Runner_jumpIf 0 = .ok (.iload_n 2, 1) := by decide +kernel
theorem d_Runner_jumpIf_1 : decode b_Runner_jumpIf 1 = .ok (.ifCond .eq 11, 3) := by decide +kernel
theorem d_Runner_jumpIf_12 : decode b_Runner_jumpIf 12 = .ok (.aload_n 0, 1) := by decide +kernel
theorem d_Runner_jumpIf_13 : decode b_Runner_jumpIf 13 = .ok (.dup, 1) := by decide +kernel
theorem d_Runner_jumpIf_14 : decode b_Runner_jumpIf 14 = .ok (.getfield 61, 3) := by decide +kernel
theorem d_Runner_jumpIf_17 : decode b_Runner_jumpIf 17 = .ok (.iconst 1, 1) := by decide +kernel
theorem d_Runner_jumpIf_18 : decode b_Runner_jumpIf 18 = .ok (.iadd, 1) := by decide +kernel
theorem d_Runner_jumpIf_19 : decode b_Runner_jumpIf 19 = .ok (.putfield 61, 3) := by decide +kernel
theorem d_Runner_jumpIf_22 : decode b_Runner_jumpIf 22 = .ok (.return_, 1) := by decide +kernel
theorem d_Runner_jumpIf_4 : decode b_Runner_jumpIf 4 = .ok (.aload_n 0, 1) := by decide +kernel
theorem d_Runner_jumpIf_5 : decode b_Runner_jumpIf 5 = .ok (.iload_n 1, 1) := by decide +kernel
theorem d_Runner_jumpIf_6 : decode b_Runner_jumpIf 6 = .ok (.invokevirtual 111, 3) := by decide +kernel
theorem d_Runner_jumpIf_9 : decode b_Runner_jumpIf 9 = .ok (.goto 13, 3) := by decide +kernel
theorem d_Runner_step_119 : decode b_Runner_step 119 = .ok (.invokevirtual 107, 3) := by decide +kernel
theorem d_Runner_step_122 : decode b_Runner_step 122 = .ok (.goto 60, 3) := by decide +kernel
theorem d_Runner_step_182 : decode b_Runner_step 182 = .ok (.return_, 1) := by decide +kernel
theorem d_Runner_step_99 : decode b_Runner_step 99 = .ok (.invokevirtual 107, 3) := by decide +kernel
theorem d_Runner_step_102 : decode b_Runner_step 102 = .ok (.goto 80, 3) := by decide +kernel
theorem d_Runner_step_0 : decode b_Runner_step 0 = .ok (.aload_n 0, 1) := by decide +kernel
theorem d_Runner_step_1 : decode b_Runner_step 1 = .ok (.getfield 33, 3) := by decide +kernel
theorem d_Runner_step_4 : decode b_Runner_step 4 = .ok (.getfield 100, 3) := by decide +kernel
theorem d_Runner_step_7 : decode b_Runner_step 7 = .ok (.iload_n 1, 1) := by decide +kernel
theorem d_Runner_step_8 : decode b_Runner_step 8 = .ok (.iaload, 1) := by decide +kernel
theorem d_Runner_step_9 : decode b_Runner_step 9 = .ok (.tableswitch 132 0 9 #[55, 63, 63, 76, 116, 116, 116, 96, 116, 124], 55) := by decide +kernel
theorem d_Runner_step_64 : decode b_Runner_step 64 = .ok (.aload_n 0, 1) := by decide +kernel
theorem d_Runner_step_65 : decode b_Runner_step 65 = .ok (.iconst 1, 1) := by decide +kernel
theorem d_Runner_step_66 : decode b_Runner_step 66 = .ok (.putfield 55, 3) := by decide +kernel
theorem d_Runner_step_69 : decode b_Runner_step 69 = .ok (.goto 113, 3) := by decide +kernel
theorem d_Runner_step_72 : decode b_Runner_step 72 = .ok (.aload_n 0, 1) := by decide +kernel
theorem d_Runner_step_73 : decode b_Runner_step 73 = .ok (.dup, 1) := by decide +kernel
theorem d_Runner_step_74 : decode b_Runner_step 74 = .ok (.getfield 61, 3) := by decide +kernel
theorem d_Runner_step_77 : decode b_Runner_step 77 = .ok (.iconst 1, 1) := by decide +kernel
theorem d_Runner_step_78 : decode b_Runner_step 78 = .ok (.iadd, 1) := by decide +kernel
theorem d_Runner_step_79 : decode b_Runner_step 79 = .ok (.putfield 61, 3) := by decide +kernel
theorem d_Runner_step_82 : decode b_Runner_step 82 = .ok (.goto 100, 3) := by decide +kernel
theorem d_Runner_step_85 : decode b_Runner_step 85 = .ok (.aload_n 0, 1) := by decide +kernel
theorem d_Runner_step_86 : decode b_Runner_step 86 = .ok (.iload_n 1, 1) := by decide +kernel
theorem d_Runner_step_87 : decode b_Runner_step 87 = .ok (.aload_n 0, 1) := by decide +kernel
theorem d_Runner_step_88 : decode b_Runner_step 88 = .ok (.invokevirtual 103, 3) := by decide +kernel
theorem d_Runner_step_91 : decode b_Runner_step 91 = .ok (.ifCond .ne 7, 3) := by decide +kernel
theorem d_Runner_step_98 : decode b_Runner_step 98 = .ok (.iconst 0, 1) := by decide +kernel
theorem d_Runner_step_94 : decode b_Runner_step 94 = .ok (.iconst 1, 1) := by decide +kernel
theorem d_Runner_step_95 : decode b_Runner_step 95 = .ok (.goto 4, 3) := by decide +kernel
theorem d_Runner_step_125 : decode b_Runner_step 125 = .ok (.aload_n 0, 1) := by decide +kernel
theorem d_Runner_step_126 : decode b_Runner_step 126 = .ok (.iload_n 1, 1) := by decide +kernel
theorem d_Runner_step_127 : decode b_Runner_step 127 = .ok (.invokevirtual 111, 3) := by decide +kernel
theorem d_Runner_step_130 : decode b_Runner_step 130 = .ok (.goto 52, 3) := by decide +kernel
theorem d_Runner_step_105 : decode b_Runner_step 105 = .ok (.aload_n 0, 1) := by decide +kernel
theorem d_Runner_step_106 : decode b_Runner_step 106 = .ok (.iload_n 1, 1) := by decide +kernel
theorem d_Runner_step_107 : decode b_Runner_step 107 = .ok (.aload_n 0, 1) := by decide +kernel
theorem d_Runner_step_108 : decode b_Runner_step 108 = .ok (.invokevirtual 103, 3) := by decide +kernel
theorem d_Runner_step_111 : decode b_Runner_step 111 = .ok (.ifCond .eq 7, 3) := by decide +kernel
theorem d_Runner_step_118 : decode b_Runner_step 118 = .ok (.iconst 0, 1) := by decide +kernel
theorem d_Runner_step_114 : decode b_Runner_step 114 = .ok (.iconst 1, 1) := by decide +kernel
theorem d_Runner_step_115 : decode b_Runner_step 115 = .ok (.goto 4, 3) := by decide +kernel
theorem d_Runner_step_133 : decode b_Runner_step 133 = .ok (.aload_n 0, 1) := by decide +kernel
theorem d_Runner_step_134 : decode b_Runner_step 134 = .ok (.iload_n 1, 1) := by decide +kernel
theorem d_Runner_step_135 : decode b_Runner_step 135 = .ok (.invokevirtual 114, 3) := by decide +kernel
theorem d_Runner_step_138 : decode b_Runner_step 138 = .ok (.goto 44, 3) := by decide +kernel
theorem d_Runner_step_141 : decode b_Runner_step 141 = .ok (.aload_n 0, 1) := by decide +kernel
theorem d_Runner_step_142 : decode b_Runner_step 142 = .ok (.aload_n 0, 1) := by decide +kernel
theorem d_Runner_step_143 : decode b_Runner_step 143 = .ok (.getfield 33, 3) := by decide +kernel
theorem d_Runner_step_146 : decode b_Runner_step 146 = .ok (.getfield 100, 3) := by decide +kernel
theorem d_Runner_step_149 : decode b_Runner_step 149 = .ok (.iload_n 1, 1) := by decide +kernel
theorem d_Runner_step_150 : decode b_Runner_step 150 = .ok (.iaload, 1) := by decide +kernel
theorem d_Runner_step_151 : decode b_Runner_step 151 = .ok (.aload_n 0, 1) := by decide +kernel
theorem d_Runner_step_152 : decode b_Runner_step 152 = .ok (.getfield 33, 3) := by decide +kernel
theorem d_Runner_step_155 : decode b_Runner_step 155 = .ok (.getfield 117, 3) := by decide +kernel
theorem d_Runner_step_158 : decode b_Runner_step 158 = .ok (.iload_n 1, 1) := by decide +kernel
theorem d_Runner_step_159 : decode b_Runner_step 159 = .ok (.iaload, 1) := by decide +kernel
theorem d_Runner_step_160 : decode b_Runner_step 160 = .ok (.invokevirtual 120, 3) := by decide +kernel
theorem d_Runner_step_163 : decode b_Runner_step 163 = .ok (.aload_n 0, 1) := by decide +kernel
theorem d_Runner_step_164 : decode b_Runner_step 164 = .ok (.getfield 55, 3) := by decide +kernel
theorem d_Runner_step_167 : decode b_Runner_step 167 = .ok (.bipush 6, 2) := by decide +kernel
theorem d_Runner_step_169 : decode b_Runner_step 169 = .ok (.if_icmp .ne 13, 3) := by decide +kernel
theorem d_Runner_step_172 : decode b_Runner_step 172 = .ok (.aload_n 0, 1) := by decide +kernel
theorem d_Runner_step_173 : decode b_Runner_step 173 = .ok (.dup, 1) := by decide +kernel
theorem d_Runner_step_174 : decode b_Runner_step 174 = .ok (.getfield 61, 3) := by decide +kernel
theorem d_Runner_step_177 : decode b_Runner_step 177 = .ok (.iconst 1, 1) := by decide +kernel
theorem d_Runner_step_178 : decode b_Runner_step 178 = .ok (.iadd, 1) := by decide +kernel
theorem d_Runner_step_179 : decode b_Runner_step 179 = .ok (.putfield 61, 3) := by decide +kernel
theorem d_Runner_runWith_68 : decode b_Runner_runWith 68 = .ok (.aload_n 0, 1) := by decide +kernel
theorem d_Runner_runWith_69 : decode b_Runner_runWith 69 = .ok (.iconst 0, 1) := by decide +kernel
theorem d_Runner_runWith_70 : decode b_Runner_runWith 70 = .ok (.putfield 41, 3) := by decide +kernel
theorem d_Runner_runWith_73 : decode b_Runner_runWith 73 = .ok (.aload_n 0, 1) := by decide +kernel
theorem d_Runner_runWith_74 : decode b_Runner_runWith 74 = .ok (.getfield 55, 3) := by decide +kernel
theorem d_Runner_runWith_77 : decode b_Runner_runWith 77 = .ok (.ireturn, 1) := by decide +kernel
theorem d_Runner_runWith_54 : decode b_Runner_runWith 54 = .ok (.aload_n 0, 1) := by decide +kernel
theorem d_Runner_runWith_55 : decode b_Runner_runWith 55 = .ok (.getfield 55, 3) := by decide +kernel
theorem d_Runner_runWith_58 : decode b_Runner_runWith 58 = .ok (.bipush 6, 2) := by decide +kernel
theorem d_Runner_runWith_60 : decode b_Runner_runWith 60 = .ok (.if_icmp .ne 8, 3) := by decide +kernel
theorem d_Runner_runWith_63 : decode b_Runner_runWith 63 = .ok (.aload_n 0, 1) := by decide +kernel
theorem d_Runner_runWith_64 : decode b_Runner_runWith 64 = .ok (.iconst 5, 1) := by decide +kernel
theorem d_Runner_runWith_65 : decode b_Runner_runWith 65 = .ok (.putfield 55, 3) := by decide +kernel
theorem d_Runner_runWith_16 : decode b_Runner_runWith 16 = .ok (.aload_n 0, 1) := by decide +kernel
theorem d_Runner_runWith_17 : decode b_Runner_runWith 17 = .ok (.getfield 55, 3) := by decide +kernel
theorem d_Runner_runWith_20 : decode b_Runner_runWith 20 = .ok (.bipush 6, 2) := by decide +kernel
theorem d_Runner_runWith_22 : decode b_Runner_runWith 22 = .ok (.if_icmp .ne 32, 3) := by decide +kernel
theorem d_Runner_runWith_25 : decode b_Runner_runWith 25 = .ok (.aload_n 0, 1) := by decide +kernel
theorem d_Runner_runWith_26 : decode b_Runner_runWith 26 = .ok (.getfield 58, 3) := by decide +kernel
theorem d_Runner_runWith_29 : decode b_Runner_runWith 29 = .ok (.iload_n 3, 1) := by decide +kernel
theorem d_Runner_runWith_30 : decode b_Runner_runWith 30 = .ok (.if_icmp .ge 24, 3) := by decide +kernel
theorem d_Runner_runWith_33 : decode b_Runner_runWith 33 = .ok (.aload_n 0, 1) := by decide +kernel
theorem d_Runner_runWith_34 : decode b_Runner_runWith 34 = .ok (.dup, 1) := by decide +kernel
theorem d_Runner_runWith_35 : decode b_Runner_runWith 35 = .ok (.getfield 58, 3) := by decide +kernel
theorem d_Runner_runWith_38 : decode b_Runner_runWith 38 = .ok (.iconst 1, 1) := by decide +kernel
theorem d_Runner_runWith_39 : decode b_Runner_runWith 39 = .ok (.iadd, 1) := by decide +kernel
theorem d_Runner_runWith_40 : decode b_Runner_runWith 40 = .ok (.putfield 58, 3) := by decide +kernel
theorem d_Runner_runWith_43 : decode b_Runner_runWith 43 = .ok (.aload_n 0, 1) := by decide +kernel
theorem d_Runner_runWith_44 : decode b_Runner_runWith 44 = .ok (.aload_n 0, 1) := by decide +kernel
theorem d_Runner_runWith_45 : decode b_Runner_runWith 45 = .ok (.getfield 61, 3) := by decide +kernel
theorem d_Runner_runWith_48 : decode b_Runner_runWith 48 = .ok (.invokevirtual 64, 3) := by decide +kernel
theorem d_Runner_runWith_51 : decode b_Runner_runWith 51 = .ok (.goto (-35), 3) := by decide +kernel
theorem d_Runner_runWith_0 : decode b_Runner_runWith 0 = .ok (.aload_n 0, 1) := by decide +kernel
theorem d_Runner_runWith_1 : decode b_Runner_runWith 1 = .ok (.iload_n 1, 1) := by decide +kernel
theorem d_Runner_runWith_2 : decode b_Runner_runWith 2 = .ok (.bipush 64, 2) := by decide +kernel
theorem d_Runner_runWith_4 : decode b_Runner_runWith 4 = .ok (.invokestatic 45, 3) := by decide +kernel
theorem d_Runner_runWith_7 : decode b_Runner_runWith 7 = .ok (.iload_n 2, 1) := by decide +kernel
theorem d_Runner_runWith_8 : decode b_Runner_runWith 8 = .ok (.bipush 64, 2) := by decide +kernel
theorem d_Runner_runWith_10 : decode b_Runner_runWith 10 = .ok (.invokestatic 45, 3) := by decide +kernel
theorem d_Runner_runWith_13 : decode b_Runner_runWith 13 = .ok (.invokevirtual 51, 3) := by decide +kernel
theorem d_RangeTeller_run_0 : decode b_RangeTeller_run 0 = .ok (.aload_n 0, 1) := by decide +kernel
theorem d_RangeTeller_run_1 : decode b_RangeTeller_run 1 = .ok (.getfield 46, 3) := by decide +kernel
theorem d_RangeTeller_run_4 : decode b_RangeTeller_run 4 = .ok (.ifCond .ne 6, 3) := by decide +kernel
theorem d_RangeTeller_run_10 : decode b_RangeTeller_run 10 = .ok (.aload_n 0, 1) := by decide +kernel
theorem d_RangeTeller_run_11 : decode b_RangeTeller_run 11 = .ok (.getfield 35, 3) := by decide +kernel
theorem d_RangeTeller_run_14 : decode b_RangeTeller_run 14 = .ok (.iload_n 1, 1) := by decide +kernel
theorem d_RangeTeller_run_15 : decode b_RangeTeller_run 15 = .ok (.iload_n 2, 1) := by decide +kernel
theorem d_RangeTeller_run_16 : decode b_RangeTeller_run 16 = .ok (.iconst 0, 1) := by decide +kernel
theorem d_RangeTeller_run_17 : decode b_RangeTeller_run 17 = .ok (.iload_n 3, 1) := by decide +kernel
theorem d_RangeTeller_run_18 : decode b_RangeTeller_run 18 = .ok (.sipush 2000, 3) := by decide +kernel
theorem d_RangeTeller_run_21 : decode b_RangeTeller_run 21 = .ok (.invokestatic 78, 3) := by decide +kernel
theorem d_RangeTeller_run_24 : decode b_RangeTeller_run 24 = .ok (.invokestatic 84, 3) := by decide +kernel
theorem d_RangeTeller_run_27 : decode b_RangeTeller_run 27 = .ok (.invokevirtual 87, 3) := by decide +kernel
theorem d_RangeTeller_run_30 : decode b_RangeTeller_run 30 = .ok (.ireturn, 1) := by decide +kernel
theorem d_RangeTeller_run_7 : decode b_RangeTeller_run 7 = .ok (.bipush (-3), 2) := by decide +kernel
theorem d_RangeTeller_run_9 : decode b_RangeTeller_run 9 = .ok (.ireturn, 1) := by decide +kernel
theorem d_RangeTeller_outcome_0 : decode b_RangeTeller_outcome 0 = .ok (.aload_n 0, 1) := by decide +kernel
theorem d_RangeTeller_outcome_1 : decode b_RangeTeller_outcome 1 = .ok (.getfield 35, 3) := by decide +kernel
theorem d_RangeTeller_outcome_4 : decode b_RangeTeller_outcome 4 = .ok (.getfield 91, 3) := by decide +kernel
theorem d_RangeTeller_outcome_7 : decode b_RangeTeller_outcome 7 = .ok (.ifCond .ne 6, 3) := by decide +kernel
theorem d_RangeTeller_outcome_13 : decode b_RangeTeller_outcome 13 = .ok (.iload_n 1, 1) := by decide +kernel
theorem d_RangeTeller_outcome_14 : decode b_RangeTeller_outcome 14 = .ok (.tableswitch 77 0 3 #[30, 38, 61, 69], 30) := by decide +kernel
theorem d_RangeTeller_outcome_44 : decode b_RangeTeller_outcome 44 = .ok (.aload_n 0, 1) := by decide +kernel
theorem d_RangeTeller_outcome_45 : decode b_RangeTeller_outcome 45 = .ok (.getfield 35, 3) := by decide +kernel
theorem d_RangeTeller_outcome_48 : decode b_RangeTeller_outcome 48 = .ok (.getfield 94, 3) := by decide +kernel
theorem d_RangeTeller_outcome_51 : decode b_RangeTeller_outcome 51 = .ok (.ireturn, 1) := by decide +kernel
theorem d_RangeTeller_outcome_52 : decode b_RangeTeller_outcome 52 = .ok (.aload_n 0, 1) := by decide +kernel
theorem d_RangeTeller_outcome_53 : decode b_RangeTeller_outcome 53 = .ok (.getfield 35, 3) := by decide +kernel
theorem d_RangeTeller_outcome_56 : decode b_RangeTeller_outcome 56 = .ok (.getfield 97, 3) := by decide +kernel
theorem d_RangeTeller_outcome_59 : decode b_RangeTeller_outcome 59 = .ok (.ifCond .ne 8, 3) := by decide +kernel
theorem d_RangeTeller_outcome_67 : decode b_RangeTeller_outcome 67 = .ok (.aload_n 0, 1) := by decide +kernel
theorem d_RangeTeller_outcome_68 : decode b_RangeTeller_outcome 68 = .ok (.getfield 35, 3) := by decide +kernel
theorem d_RangeTeller_outcome_71 : decode b_RangeTeller_outcome 71 = .ok (.getfield 100, 3) := by decide +kernel
theorem d_RangeTeller_outcome_74 : decode b_RangeTeller_outcome 74 = .ok (.ireturn, 1) := by decide +kernel
theorem d_RangeTeller_outcome_62 : decode b_RangeTeller_outcome 62 = .ok (.bipush (-3), 2) := by decide +kernel
theorem d_RangeTeller_outcome_64 : decode b_RangeTeller_outcome 64 = .ok (.goto 10, 3) := by decide +kernel
theorem d_RangeTeller_outcome_75 : decode b_RangeTeller_outcome 75 = .ok (.aload_n 0, 1) := by decide +kernel
theorem d_RangeTeller_outcome_76 : decode b_RangeTeller_outcome 76 = .ok (.getfield 35, 3) := by decide +kernel
theorem d_RangeTeller_outcome_79 : decode b_RangeTeller_outcome 79 = .ok (.getfield 103, 3) := by decide +kernel
theorem d_RangeTeller_outcome_82 : decode b_RangeTeller_outcome 82 = .ok (.ireturn, 1) := by decide +kernel
theorem d_RangeTeller_outcome_83 : decode b_RangeTeller_outcome 83 = .ok (.aload_n 0, 1) := by decide +kernel
theorem d_RangeTeller_outcome_84 : decode b_RangeTeller_outcome 84 = .ok (.getfield 35, 3) := by decide +kernel
theorem d_RangeTeller_outcome_87 : decode b_RangeTeller_outcome 87 = .ok (.getfield 106, 3) := by decide +kernel
theorem d_RangeTeller_outcome_90 : decode b_RangeTeller_outcome 90 = .ok (.ireturn, 1) := by decide +kernel
theorem d_RangeTeller_outcome_91 : decode b_RangeTeller_outcome 91 = .ok (.bipush (-3), 2) := by decide +kernel
theorem d_RangeTeller_outcome_93 : decode b_RangeTeller_outcome 93 = .ok (.ireturn, 1) := by decide +kernel
theorem d_RangeTeller_outcome_10 : decode b_RangeTeller_outcome 10 = .ok (.bipush (-3), 2) := by decide +kernel
theorem d_RangeTeller_outcome_12 : decode b_RangeTeller_outcome 12 = .ok (.ireturn, 1) := by decide +kernel
theorem d_RangeTeller_output_0 : decode b_RangeTeller_output 0 = .ok (.aload_n 0, 1) := by decide +kernel
