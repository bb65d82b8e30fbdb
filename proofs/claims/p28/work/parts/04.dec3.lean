theorem dX12_keepAct_96 : decode cX12_keepAct 96 = .ok (.iadd, 1) := by decide +kernel
theorem dX12_keepAct_97 : decode cX12_keepAct 97 = .ok (.aload_n 0, 1) := by decide +kernel
theorem dX12_keepAct_98 : decode cX12_keepAct 98 = .ok (.getfield 267, 3) := by decide +kernel
theorem dX12_keepAct_101 : decode cX12_keepAct 101 = .ok (.iastore, 1) := by decide +kernel
theorem dX12_keepAct_102 : decode cX12_keepAct 102 = .ok (.aload_n 0, 1) := by decide +kernel
theorem dX12_keepAct_103 : decode cX12_keepAct 103 = .ok (.dup, 1) := by decide +kernel
theorem dX12_keepAct_104 : decode cX12_keepAct 104 = .ok (.getfield 270, 3) := by decide +kernel
theorem dX12_keepAct_107 : decode cX12_keepAct 107 = .ok (.iconst 1, 1) := by decide +kernel
theorem dX12_keepAct_108 : decode cX12_keepAct 108 = .ok (.iadd, 1) := by decide +kernel
theorem dX12_keepAct_109 : decode cX12_keepAct 109 = .ok (.putfield 270, 3) := by decide +kernel
theorem dX12_keepAct_112 : decode cX12_keepAct 112 = .ok (.aload_n 0, 1) := by decide +kernel
theorem dX12_keepAct_113 : decode cX12_keepAct 113 = .ok (.iconst 0, 1) := by decide +kernel
theorem dX12_keepAct_114 : decode cX12_keepAct 114 = .ok (.putfield 273, 3) := by decide +kernel
theorem dX12_keepAct_117 : decode cX12_keepAct 117 = .ok (.return_, 1) := by decide +kernel
theorem dX12_exchange_0 : decode cX12_exchange 0 = .ok (.bipush 81, 2) := by decide +kernel
theorem dX12_exchange_2 : decode cX12_exchange 2 = .ok (.aload_n 0, 1) := by decide +kernel
theorem dX12_exchange_3 : decode cX12_exchange 3 = .ok (.getfield 270, 3) := by decide +kernel
theorem dX12_exchange_6 : decode cX12_exchange 6 = .ok (.imul, 1) := by decide +kernel
theorem dX12_exchange_7 : decode cX12_exchange 7 = .ok (.istore_n 1, 1) := by decide +kernel
theorem dX12_exchange_8 : decode cX12_exchange 8 = .ok (.iconst 0, 1) := by decide +kernel
theorem dX12_exchange_9 : decode cX12_exchange 9 = .ok (.istore_n 2, 1) := by decide +kernel
theorem dX12_exchange_10 : decode cX12_exchange 10 = .ok (.iload_n 2, 1) := by decide +kernel
theorem dX12_exchange_11 : decode cX12_exchange 11 = .ok (.bipush 80, 2) := by decide +kernel
theorem dX12_exchange_13 : decode cX12_exchange 13 = .ok (.if_icmp .ge 39, 3) := by decide +kernel
theorem dX12_exchange_16 : decode cX12_exchange 16 = .ok (.aload_n 0, 1) := by decide +kernel
theorem dX12_exchange_17 : decode cX12_exchange 17 = .ok (.getfield 95, 3) := by decide +kernel
theorem dX12_exchange_20 : decode cX12_exchange 20 = .ok (.iload_n 1, 1) := by decide +kernel
theorem dX12_exchange_21 : decode cX12_exchange 21 = .ok (.iload_n 2, 1) := by decide +kernel
theorem dX12_exchange_22 : decode cX12_exchange 22 = .ok (.iadd, 1) := by decide +kernel
theorem dX12_exchange_23 : decode cX12_exchange 23 = .ok (.iaload, 1) := by decide +kernel
theorem dX12_exchange_24 : decode cX12_exchange 24 = .ok (.istore_n 3, 1) := by decide +kernel
theorem dX12_exchange_25 : decode cX12_exchange 25 = .ok (.aload_n 0, 1) := by decide +kernel
theorem dX12_exchange_26 : decode cX12_exchange 26 = .ok (.getfield 95, 3) := by decide +kernel
theorem dX12_exchange_29 : decode cX12_exchange 29 = .ok (.iload_n 1, 1) := by decide +kernel
theorem dX12_exchange_30 : decode cX12_exchange 30 = .ok (.iload_n 2, 1) := by decide +kernel
theorem dX12_exchange_31 : decode cX12_exchange 31 = .ok (.iadd, 1) := by decide +kernel
theorem dX12_exchange_32 : decode cX12_exchange 32 = .ok (.aload_n 0, 1) := by decide +kernel
theorem dX12_exchange_33 : decode cX12_exchange 33 = .ok (.getfield 65, 3) := by decide +kernel
theorem dX12_exchange_36 : decode cX12_exchange 36 = .ok (.iload_n 2, 1) := by decide +kernel
theorem dX12_exchange_37 : decode cX12_exchange 37 = .ok (.iaload, 1) := by decide +kernel
theorem dX12_exchange_38 : decode cX12_exchange 38 = .ok (.iastore, 1) := by decide +kernel
theorem dX12_exchange_39 : decode cX12_exchange 39 = .ok (.aload_n 0, 1) := by decide +kernel
theorem dX12_exchange_40 : decode cX12_exchange 40 = .ok (.getfield 65, 3) := by decide +kernel
theorem dX12_exchange_43 : decode cX12_exchange 43 = .ok (.iload_n 2, 1) := by decide +kernel
theorem dX12_exchange_44 : decode cX12_exchange 44 = .ok (.iload_n 3, 1) := by decide +kernel
theorem dX12_exchange_45 : decode cX12_exchange 45 = .ok (.iastore, 1) := by decide +kernel
theorem dX12_exchange_46 : decode cX12_exchange 46 = .ok (.iinc 2 1, 3) := by decide +kernel
theorem dX12_exchange_49 : decode cX12_exchange 49 = .ok (.goto (-39), 3) := by decide +kernel
theorem dX12_exchange_52 : decode cX12_exchange 52 = .ok (.aload_n 0, 1) := by decide +kernel
theorem dX12_exchange_53 : decode cX12_exchange 53 = .ok (.getfield 95, 3) := by decide +kernel
theorem dX12_exchange_56 : decode cX12_exchange 56 = .ok (.iload_n 1, 1) := by decide +kernel
theorem dX12_exchange_57 : decode cX12_exchange 57 = .ok (.bipush 80, 2) := by decide +kernel
theorem dX12_exchange_59 : decode cX12_exchange 59 = .ok (.iadd, 1) := by decide +kernel
theorem dX12_exchange_60 : decode cX12_exchange 60 = .ok (.iaload, 1) := by decide +kernel
theorem dX12_exchange_61 : decode cX12_exchange 61 = .ok (.istore_n 2, 1) := by decide +kernel
theorem dX12_exchange_62 : decode cX12_exchange 62 = .ok (.aload_n 0, 1) := by decide +kernel
theorem dX12_exchange_63 : decode cX12_exchange 63 = .ok (.getfield 95, 3) := by decide +kernel
theorem dX12_exchange_66 : decode cX12_exchange 66 = .ok (.iload_n 1, 1) := by decide +kernel
theorem dX12_exchange_67 : decode cX12_exchange 67 = .ok (.bipush 80, 2) := by decide +kernel
theorem dX12_exchange_69 : decode cX12_exchange 69 = .ok (.iadd, 1) := by decide +kernel
theorem dX12_exchange_70 : decode cX12_exchange 70 = .ok (.aload_n 0, 1) := by decide +kernel
theorem dX12_exchange_71 : decode cX12_exchange 71 = .ok (.getfield 267, 3) := by decide +kernel
theorem dX12_exchange_74 : decode cX12_exchange 74 = .ok (.iastore, 1) := by decide +kernel
theorem dX12_exchange_75 : decode cX12_exchange 75 = .ok (.aload_n 0, 1) := by decide +kernel
theorem dX12_exchange_76 : decode cX12_exchange 76 = .ok (.iload_n 2, 1) := by decide +kernel
theorem dX12_exchange_77 : decode cX12_exchange 77 = .ok (.putfield 267, 3) := by decide +kernel
theorem dX12_exchange_80 : decode cX12_exchange 80 = .ok (.return_, 1) := by decide +kernel
theorem dX12_undo_0 : decode cX12_undo 0 = .ok (.aload_n 0, 1) := by decide +kernel
theorem dX12_undo_1 : decode cX12_undo 1 = .ok (.getfield 270, 3) := by decide +kernel
theorem dX12_undo_4 : decode cX12_undo 4 = .ok (.ifCond .ne 5, 3) := by decide +kernel
theorem dX12_undo_7 : decode cX12_undo 7 = .ok (.iconst 0, 1) := by decide +kernel
theorem dX12_undo_8 : decode cX12_undo 8 = .ok (.ireturn, 1) := by decide +kernel
theorem dX12_undo_9 : decode cX12_undo 9 = .ok (.aload_n 0, 1) := by decide +kernel
theorem dX12_undo_10 : decode cX12_undo 10 = .ok (.dup, 1) := by decide +kernel
theorem dX12_undo_11 : decode cX12_undo 11 = .ok (.getfield 270, 3) := by decide +kernel
theorem dX12_undo_14 : decode cX12_undo 14 = .ok (.iconst 1, 1) := by decide +kernel
theorem dX12_undo_15 : decode cX12_undo 15 = .ok (.isub, 1) := by decide +kernel
theorem dX12_undo_16 : decode cX12_undo 16 = .ok (.putfield 270, 3) := by decide +kernel
theorem dX12_undo_19 : decode cX12_undo 19 = .ok (.aload_n 0, 1) := by decide +kernel
theorem dX12_undo_20 : decode cX12_undo 20 = .ok (.dup, 1) := by decide +kernel
theorem dX12_undo_21 : decode cX12_undo 21 = .ok (.getfield 273, 3) := by decide +kernel
theorem dX12_undo_24 : decode cX12_undo 24 = .ok (.iconst 1, 1) := by decide +kernel
theorem dX12_undo_25 : decode cX12_undo 25 = .ok (.iadd, 1) := by decide +kernel
theorem dX12_undo_26 : decode cX12_undo 26 = .ok (.putfield 273, 3) := by decide +kernel
theorem dX12_undo_29 : decode cX12_undo 29 = .ok (.aload_n 0, 1) := by decide +kernel
theorem dX12_undo_30 : decode cX12_undo 30 = .ok (.invokevirtual 358, 3) := by decide +kernel
theorem dX12_undo_33 : decode cX12_undo 33 = .ok (.iconst 1, 1) := by decide +kernel
theorem dX12_undo_34 : decode cX12_undo 34 = .ok (.ireturn, 1) := by decide +kernel
theorem dX12_redo_0 : decode cX12_redo 0 = .ok (.aload_n 0, 1) := by decide +kernel
theorem dX12_redo_1 : decode cX12_redo 1 = .ok (.getfield 273, 3) := by decide +kernel
theorem dX12_redo_4 : decode cX12_redo 4 = .ok (.ifCond .ne 5, 3) := by decide +kernel
theorem dX12_redo_7 : decode cX12_redo 7 = .ok (.iconst 0, 1) := by decide +kernel
theorem dX12_redo_8 : decode cX12_redo 8 = .ok (.ireturn, 1) := by decide +kernel
theorem dX12_redo_9 : decode cX12_redo 9 = .ok (.aload_n 0, 1) := by decide +kernel
theorem dX12_redo_10 : decode cX12_redo 10 = .ok (.invokevirtual 358, 3) := by decide +kernel
theorem dX12_redo_13 : decode cX12_redo 13 = .ok (.aload_n 0, 1) := by decide +kernel
theorem dX12_redo_14 : decode cX12_redo 14 = .ok (.dup, 1) := by decide +kernel
theorem dX12_redo_15 : decode cX12_redo 15 = .ok (.getfield 270, 3) := by decide +kernel
theorem dX12_redo_18 : decode cX12_redo 18 = .ok (.iconst 1, 1) := by decide +kernel
theorem dX12_redo_19 : decode cX12_redo 19 = .ok (.iadd, 1) := by decide +kernel
theorem dX12_redo_20 : decode cX12_redo 20 = .ok (.putfield 270, 3) := by decide +kernel
theorem dX12_redo_23 : decode cX12_redo 23 = .ok (.aload_n 0, 1) := by decide +kernel
theorem dX12_redo_24 : decode cX12_redo 24 = .ok (.dup, 1) := by decide +kernel
theorem dX12_redo_25 : decode cX12_redo 25 = .ok (.getfield 273, 3) := by decide +kernel
theorem dX12_redo_28 : decode cX12_redo 28 = .ok (.iconst 1, 1) := by decide +kernel
theorem dX12_redo_29 : decode cX12_redo 29 = .ok (.isub, 1) := by decide +kernel
theorem dX12_redo_30 : decode cX12_redo 30 = .ok (.putfield 273, 3) := by decide +kernel
theorem dX12_redo_33 : decode cX12_redo 33 = .ok (.iconst 1, 1) := by decide +kernel
theorem dX12_redo_34 : decode cX12_redo 34 = .ok (.ireturn, 1) := by decide +kernel
theorem dX12_run_0 : decode cX12_run 0 = .ok (.iload_n 1, 1) := by decide +kernel
theorem dX12_run_1 : decode cX12_run 1 = .ok (.iconst 1, 1) := by decide +kernel
theorem dX12_run_2 : decode cX12_run 2 = .ok (.sipush 999, 3) := by decide +kernel
theorem dX12_run_5 : decode cX12_run 5 = .ok (.invokestatic 260, 3) := by decide +kernel
theorem dX12_run_8 : decode cX12_run 8 = .ok (.ifCond .ne 5, 3) := by decide +kernel
theorem dX12_run_11 : decode cX12_run 11 = .ok (.iconst (-1), 1) := by decide +kernel
theorem dX12_run_12 : decode cX12_run 12 = .ok (.ireturn, 1) := by decide +kernel
theorem dX12_run_13 : decode cX12_run 13 = .ok (.aload_n 0, 1) := by decide +kernel
theorem dX12_run_14 : decode cX12_run 14 = .ok (.invokevirtual 361, 3) := by decide +kernel
theorem dX12_run_17 : decode cX12_run 17 = .ok (.aload_n 0, 1) := by decide +kernel
theorem dX12_run_18 : decode cX12_run 18 = .ok (.invokevirtual 291, 3) := by decide +kernel
theorem dX12_run_21 : decode cX12_run 21 = .ok (.iload_n 1, 1) := by decide +kernel
theorem dX12_run_22 : decode cX12_run 22 = .ok (.istore_n 2, 1) := by decide +kernel
theorem dX12_run_23 : decode cX12_run 23 = .ok (.iload_n 2, 1) := by decide +kernel
theorem dX12_run_24 : decode cX12_run 24 = .ok (.ifCond .le 41, 3) := by decide +kernel
theorem dX12_run_27 : decode cX12_run 27 = .ok (.aload_n 0, 1) := by decide +kernel
theorem dX12_run_28 : decode cX12_run 28 = .ok (.invokevirtual 282, 3) := by decide +kernel
theorem dX12_run_31 : decode cX12_run 31 = .ok (.ifCond .le 34, 3) := by decide +kernel
theorem dX12_run_34 : decode cX12_run 34 = .ok (.aload_n 0, 1) := by decide +kernel
theorem dX12_run_35 : decode cX12_run 35 = .ok (.invokevirtual 313, 3) := by decide +kernel
theorem dX12_run_38 : decode cX12_run 38 = .ok (.istore_n 3, 1) := by decide +kernel
theorem dX12_run_39 : decode cX12_run 39 = .ok (.iload_n 3, 1) := by decide +kernel
theorem dX12_run_40 : decode cX12_run 40 = .ok (.iload_n 2, 1) := by decide +kernel
theorem dX12_run_41 : decode cX12_run 41 = .ok (.if_icmp .ge 7, 3) := by decide +kernel
theorem dX12_run_44 : decode cX12_run 44 = .ok (.iload_n 3, 1) := by decide +kernel
theorem dX12_run_45 : decode cX12_run 45 = .ok (.goto 4, 3) := by decide +kernel
theorem dX12_run_48 : decode cX12_run 48 = .ok (.iload_n 2, 1) := by decide +kernel
theorem dX12_run_49 : decode cX12_run 49 = .ok (.istore 4, 2) := by decide +kernel
theorem dX12_run_51 : decode cX12_run 51 = .ok (.aload_n 0, 1) := by decide +kernel
theorem dX12_run_52 : decode cX12_run 52 = .ok (.iload 4, 2) := by decide +kernel
theorem dX12_run_54 : decode cX12_run 54 = .ok (.invokevirtual 316, 3) := by decide +kernel
theorem dX12_run_57 : decode cX12_run 57 = .ok (.iload_n 2, 1) := by decide +kernel
theorem dX12_run_58 : decode cX12_run 58 = .ok (.iload 4, 2) := by decide +kernel
theorem dX12_run_60 : decode cX12_run 60 = .ok (.isub, 1) := by decide +kernel
theorem dX12_run_61 : decode cX12_run 61 = .ok (.istore_n 2, 1) := by decide +kernel
theorem dX12_run_62 : decode cX12_run 62 = .ok (.goto (-39), 3) := by decide +kernel
theorem dX12_run_65 : decode cX12_run 65 = .ok (.aload_n 0, 1) := by decide +kernel
theorem dX12_run_66 : decode cX12_run 66 = .ok (.invokevirtual 364, 3) := by decide +kernel
theorem dX12_run_69 : decode cX12_run 69 = .ok (.aload_n 0, 1) := by decide +kernel
theorem dX12_run_70 : decode cX12_run 70 = .ok (.dup, 1) := by decide +kernel
theorem dX12_run_71 : decode cX12_run 71 = .ok (.getfield 267, 3) := by decide +kernel
theorem dX12_run_74 : decode cX12_run 74 = .ok (.iload_n 1, 1) := by decide +kernel
theorem dX12_run_75 : decode cX12_run 75 = .ok (.iload_n 2, 1) := by decide +kernel
theorem dX12_run_76 : decode cX12_run 76 = .ok (.isub, 1) := by decide +kernel
theorem dX12_run_77 : decode cX12_run 77 = .ok (.iadd, 1) := by decide +kernel
theorem dX12_run_78 : decode cX12_run 78 = .ok (.putfield 267, 3) := by decide +kernel
theorem dX12_run_81 : decode cX12_run 81 = .ok (.iload_n 1, 1) := by decide +kernel
theorem dX12_run_82 : decode cX12_run 82 = .ok (.iload_n 2, 1) := by decide +kernel
theorem dX12_run_83 : decode cX12_run 83 = .ok (.isub, 1) := by decide +kernel
theorem dX12_run_84 : decode cX12_run 84 = .ok (.ireturn, 1) := by decide +kernel
theorem dX12_more_0 : decode cX12_more 0 = .ok (.aload_n 0, 1) := by decide +kernel
theorem dX12_more_1 : decode cX12_more 1 = .ok (.iload_n 1, 1) := by decide +kernel
theorem dX12_more_2 : decode cX12_more 2 = .ok (.invokevirtual 285, 3) := by decide +kernel
theorem dX12_more_5 : decode cX12_more 5 = .ok (.ifCond .eq 44, 3) := by decide +kernel
theorem dX12_more_8 : decode cX12_more 8 = .ok (.aload_n 0, 1) := by decide +kernel
theorem dX12_more_9 : decode cX12_more 9 = .ok (.iload_n 2, 1) := by decide +kernel
theorem dX12_more_10 : decode cX12_more 10 = .ok (.invokevirtual 288, 3) := by decide +kernel
theorem dX12_more_13 : decode cX12_more 13 = .ok (.ifCond .eq 36, 3) := by decide +kernel
theorem dX12_more_16 : decode cX12_more 16 = .ok (.iload_n 3, 1) := by decide +kernel
theorem dX12_more_17 : decode cX12_more 17 = .ok (.bipush (-99), 2) := by decide +kernel
theorem dX12_more_19 : decode cX12_more 19 = .ok (.bipush 99, 2) := by decide +kernel
theorem dX12_more_21 : decode cX12_more 21 = .ok (.invokestatic 260, 3) := by decide +kernel
theorem dX12_more_24 : decode cX12_more 24 = .ok (.ifCond .eq 25, 3) := by decide +kernel
theorem dX12_more_27 : decode cX12_more 27 = .ok (.aload_n 0, 1) := by decide +kernel
theorem dX12_more_28 : decode cX12_more 28 = .ok (.getfield 65, 3) := by decide +kernel
theorem dX12_more_31 : decode cX12_more 31 = .ok (.bipush 10, 2) := by decide +kernel
theorem dX12_more_33 : decode cX12_more 33 = .ok (.iload_n 1, 1) := by decide +kernel
theorem dX12_more_34 : decode cX12_more 34 = .ok (.imul, 1) := by decide +kernel
theorem dX12_more_35 : decode cX12_more 35 = .ok (.iload_n 2, 1) := by decide +kernel
theorem dX12_more_36 : decode cX12_more 36 = .ok (.iadd, 1) := by decide +kernel
theorem dX12_more_37 : decode cX12_more 37 = .ok (.iaload, 1) := by decide +kernel
theorem dX12_more_38 : decode cX12_more 38 = .ok (.iload_n 3, 1) := by decide +kernel
theorem dX12_more_39 : decode cX12_more 39 = .ok (.iadd, 1) := by decide +kernel
theorem dX12_more_40 : decode cX12_more 40 = .ok (.iconst 0, 1) := by decide +kernel
theorem dX12_more_41 : decode cX12_more 41 = .ok (.bipush 99, 2) := by decide +kernel
theorem dX12_more_43 : decode cX12_more 43 = .ok (.invokestatic 260, 3) := by decide +kernel
theorem dX12_more_46 : decode cX12_more 46 = .ok (.ifCond .ne 5, 3) := by decide +kernel
theorem dX12_more_49 : decode cX12_more 49 = .ok (.iconst (-1), 1) := by decide +kernel
theorem dX12_more_50 : decode cX12_more 50 = .ok (.ireturn, 1) := by decide +kernel
theorem dX12_more_51 : decode cX12_more 51 = .ok (.aload_n 0, 1) := by decide +kernel
theorem dX12_more_52 : decode cX12_more 52 = .ok (.invokevirtual 361, 3) := by decide +kernel
theorem dX12_more_55 : decode cX12_more 55 = .ok (.aload_n 0, 1) := by decide +kernel
theorem dX12_more_56 : decode cX12_more 56 = .ok (.getfield 65, 3) := by decide +kernel
theorem dX12_more_59 : decode cX12_more 59 = .ok (.bipush 10, 2) := by decide +kernel
theorem dX12_more_61 : decode cX12_more 61 = .ok (.iload_n 1, 1) := by decide +kernel
theorem dX12_more_62 : decode cX12_more 62 = .ok (.imul, 1) := by decide +kernel
theorem dX12_more_63 : decode cX12_more 63 = .ok (.iload_n 2, 1) := by decide +kernel
theorem dX12_more_64 : decode cX12_more 64 = .ok (.iadd, 1) := by decide +kernel
theorem dX12_more_65 : decode cX12_more 65 = .ok (.dup2, 1) := by decide +kernel
theorem dX12_more_66 : decode cX12_more 66 = .ok (.iaload, 1) := by decide +kernel
theorem dX12_more_67 : decode cX12_more 67 = .ok (.iload_n 3, 1) := by decide +kernel
theorem dX12_more_68 : decode cX12_more 68 = .ok (.iadd, 1) := by decide +kernel
theorem dX12_more_69 : decode cX12_more 69 = .ok (.iastore, 1) := by decide +kernel
theorem dX12_more_70 : decode cX12_more 70 = .ok (.aload_n 0, 1) := by decide +kernel
theorem dX12_more_71 : decode cX12_more 71 = .ok (.getfield 65, 3) := by decide +kernel
theorem dX12_more_74 : decode cX12_more 74 = .ok (.bipush 10, 2) := by decide +kernel
theorem dX12_more_76 : decode cX12_more 76 = .ok (.iload_n 1, 1) := by decide +kernel
theorem dX12_more_77 : decode cX12_more 77 = .ok (.imul, 1) := by decide +kernel
theorem dX12_more_78 : decode cX12_more 78 = .ok (.iload_n 2, 1) := by decide +kernel
theorem dX12_more_79 : decode cX12_more 79 = .ok (.iadd, 1) := by decide +kernel
theorem dX12_more_80 : decode cX12_more 80 = .ok (.iaload, 1) := by decide +kernel
theorem dX12_more_81 : decode cX12_more 81 = .ok (.ireturn, 1) := by decide +kernel
theorem dX12_breaks_0 : decode cX12_breaks 0 = .ok (.aload_n 0, 1) := by decide +kernel
theorem dX12_breaks_1 : decode cX12_breaks 1 = .ok (.iload_n 1, 1) := by decide +kernel
theorem dX12_breaks_2 : decode cX12_breaks 2 = .ok (.invokevirtual 285, 3) := by decide +kernel
theorem dX12_breaks_5 : decode cX12_breaks 5 = .ok (.ifCond .eq 16, 3) := by decide +kernel
theorem dX12_breaks_8 : decode cX12_breaks 8 = .ok (.aload_n 0, 1) := by decide +kernel
theorem dX12_breaks_9 : decode cX12_breaks 9 = .ok (.iload_n 2, 1) := by decide +kernel
theorem dX12_breaks_10 : decode cX12_breaks 10 = .ok (.invokevirtual 285, 3) := by decide +kernel
theorem dX12_breaks_13 : decode cX12_breaks 13 = .ok (.ifCond .eq 8, 3) := by decide +kernel
theorem dX12_breaks_16 : decode cX12_breaks 16 = .ok (.iload_n 1, 1) := by decide +kernel
theorem dX12_breaks_17 : decode cX12_breaks 17 = .ok (.iload_n 2, 1) := by decide +kernel
theorem dX12_breaks_18 : decode cX12_breaks 18 = .ok (.if_icmp .ne 5, 3) := by decide +kernel
theorem dX12_breaks_21 : decode cX12_breaks 21 = .ok (.iconst (-1), 1) := by decide +kernel
theorem dX12_breaks_22 : decode cX12_breaks 22 = .ok (.ireturn, 1) := by decide +kernel
theorem dX12_breaks_23 : decode cX12_breaks 23 = .ok (.iconst 0, 1) := by decide +kernel
theorem dX12_breaks_24 : decode cX12_breaks 24 = .ok (.istore_n 3, 1) := by decide +kernel
theorem dX12_breaks_25 : decode cX12_breaks 25 = .ok (.iload_n 3, 1) := by decide +kernel
theorem dX12_breaks_26 : decode cX12_breaks 26 = .ok (.bipush 10, 2) := by decide +kernel
theorem dX12_breaks_28 : decode cX12_breaks 28 = .ok (.if_icmp .ge 39, 3) := by decide +kernel
theorem dX12_breaks_31 : decode cX12_breaks 31 = .ok (.aload_n 0, 1) := by decide +kernel
theorem dX12_breaks_32 : decode cX12_breaks 32 = .ok (.getfield 65, 3) := by decide +kernel
theorem dX12_breaks_35 : decode cX12_breaks 35 = .ok (.bipush 10, 2) := by decide +kernel
theorem dX12_breaks_37 : decode cX12_breaks 37 = .ok (.iload_n 1, 1) := by decide +kernel
theorem dX12_breaks_38 : decode cX12_breaks 38 = .ok (.imul, 1) := by decide +kernel
theorem dX12_breaks_39 : decode cX12_breaks 39 = .ok (.iload_n 3, 1) := by decide +kernel
theorem dX12_breaks_40 : decode cX12_breaks 40 = .ok (.iadd, 1) := by decide +kernel
theorem dX12_breaks_41 : decode cX12_breaks 41 = .ok (.iaload, 1) := by decide +kernel
theorem dX12_breaks_42 : decode cX12_breaks 42 = .ok (.aload_n 0, 1) := by decide +kernel
theorem dX12_breaks_43 : decode cX12_breaks 43 = .ok (.getfield 65, 3) := by decide +kernel
theorem dX12_breaks_46 : decode cX12_breaks 46 = .ok (.bipush 10, 2) := by decide +kernel
theorem dX12_breaks_48 : decode cX12_breaks 48 = .ok (.iload_n 2, 1) := by decide +kernel
theorem dX12_breaks_49 : decode cX12_breaks 49 = .ok (.imul, 1) := by decide +kernel
theorem dX12_breaks_50 : decode cX12_breaks 50 = .ok (.iload_n 3, 1) := by decide +kernel
theorem dX12_breaks_51 : decode cX12_breaks 51 = .ok (.iadd, 1) := by decide +kernel
theorem dX12_breaks_52 : decode cX12_breaks 52 = .ok (.iaload, 1) := by decide +kernel
theorem dX12_breaks_53 : decode cX12_breaks 53 = .ok (.iadd, 1) := by decide +kernel
theorem dX12_breaks_54 : decode cX12_breaks 54 = .ok (.bipush 99, 2) := by decide +kernel
theorem dX12_breaks_56 : decode cX12_breaks 56 = .ok (.if_icmp .le 5, 3) := by decide +kernel
theorem dX12_breaks_59 : decode cX12_breaks 59 = .ok (.iconst (-1), 1) := by decide +kernel
theorem dX12_breaks_60 : decode cX12_breaks 60 = .ok (.ireturn, 1) := by decide +kernel
theorem dX12_breaks_61 : decode cX12_breaks 61 = .ok (.iinc 3 1, 3) := by decide +kernel
theorem dX12_breaks_64 : decode cX12_breaks 64 = .ok (.goto (-39), 3) := by decide +kernel
theorem dX12_breaks_67 : decode cX12_breaks 67 = .ok (.aload_n 0, 1) := by decide +kernel
theorem dX12_breaks_68 : decode cX12_breaks 68 = .ok (.invokevirtual 361, 3) := by decide +kernel
theorem dX12_breaks_71 : decode cX12_breaks 71 = .ok (.iconst 0, 1) := by decide +kernel
theorem dX12_breaks_72 : decode cX12_breaks 72 = .ok (.istore_n 3, 1) := by decide +kernel
theorem dX12_breaks_73 : decode cX12_breaks 73 = .ok (.iconst 0, 1) := by decide +kernel
theorem dX12_breaks_74 : decode cX12_breaks 74 = .ok (.istore 4, 2) := by decide +kernel
theorem dX12_breaks_76 : decode cX12_breaks 76 = .ok (.iload 4, 2) := by decide +kernel
theorem dX12_breaks_78 : decode cX12_breaks 78 = .ok (.bipush 10, 2) := by decide +kernel
theorem dX12_breaks_80 : decode cX12_breaks 80 = .ok (.if_icmp .ge 64, 3) := by decide +kernel
theorem dX12_breaks_83 : decode cX12_breaks 83 = .ok (.iload_n 3, 1) := by decide +kernel
theorem dX12_breaks_84 : decode cX12_breaks 84 = .ok (.aload_n 0, 1) := by decide +kernel
theorem dX12_breaks_85 : decode cX12_breaks 85 = .ok (.getfield 65, 3) := by decide +kernel
theorem dX12_breaks_88 : decode cX12_breaks 88 = .ok (.bipush 10, 2) := by decide +kernel
theorem dX12_breaks_90 : decode cX12_breaks 90 = .ok (.iload_n 1, 1) := by decide +kernel
theorem dX12_breaks_91 : decode cX12_breaks 91 = .ok (.imul, 1) := by decide +kernel
theorem dX12_breaks_92 : decode cX12_breaks 92 = .ok (.iload 4, 2) := by decide +kernel
theorem dX12_breaks_94 : decode cX12_breaks 94 = .ok (.iadd, 1) := by decide +kernel
theorem dX12_breaks_95 : decode cX12_breaks 95 = .ok (.iaload, 1) := by decide +kernel
theorem dX12_breaks_96 : decode cX12_breaks 96 = .ok (.iadd, 1) := by decide +kernel
theorem dX12_breaks_97 : decode cX12_breaks 97 = .ok (.istore_n 3, 1) := by decide +kernel
theorem dX12_breaks_98 : decode cX12_breaks 98 = .ok (.aload_n 0, 1) := by decide +kernel
theorem dX12_breaks_99 : decode cX12_breaks 99 = .ok (.getfield 65, 3) := by decide +kernel
theorem dX12_breaks_102 : decode cX12_breaks 102 = .ok (.bipush 10, 2) := by decide +kernel
theorem dX12_breaks_104 : decode cX12_breaks 104 = .ok (.iload_n 2, 1) := by decide +kernel
theorem dX12_breaks_105 : decode cX12_breaks 105 = .ok (.imul, 1) := by decide +kernel
theorem dX12_breaks_106 : decode cX12_breaks 106 = .ok (.iload 4, 2) := by decide +kernel
theorem dX12_breaks_108 : decode cX12_breaks 108 = .ok (.iadd, 1) := by decide +kernel
theorem dX12_breaks_109 : decode cX12_breaks 109 = .ok (.dup2, 1) := by decide +kernel
theorem dX12_breaks_110 : decode cX12_breaks 110 = .ok (.iaload, 1) := by decide +kernel
theorem dX12_breaks_111 : decode cX12_breaks 111 = .ok (.aload_n 0, 1) := by decide +kernel
theorem dX12_breaks_112 : decode cX12_breaks 112 = .ok (.getfield 65, 3) := by decide +kernel
theorem dX12_breaks_115 : decode cX12_breaks 115 = .ok (.bipush 10, 2) := by decide +kernel
theorem dX12_breaks_117 : decode cX12_breaks 117 = .ok (.iload_n 1, 1) := by decide +kernel
theorem dX12_breaks_118 : decode cX12_breaks 118 = .ok (.imul, 1) := by decide +kernel
theorem dX12_breaks_119 : decode cX12_breaks 119 = .ok (.iload 4, 2) := by decide +kernel
theorem dX12_breaks_121 : decode cX12_breaks 121 = .ok (.iadd, 1) := by decide +kernel
theorem dX12_breaks_122 : decode cX12_breaks 122 = .ok (.iaload, 1) := by decide +kernel
theorem dX12_breaks_123 : decode cX12_breaks 123 = .ok (.iadd, 1) := by decide +kernel
theorem dX12_breaks_124 : decode cX12_breaks 124 = .ok (.iastore, 1) := by decide +kernel
theorem dX12_breaks_125 : decode cX12_breaks 125 = .ok (.aload_n 0, 1) := by decide +kernel
theorem dX12_breaks_126 : decode cX12_breaks 126 = .ok (.getfield 65, 3) := by decide +kernel
theorem dX12_breaks_129 : decode cX12_breaks 129 = .ok (.bipush 10, 2) := by decide +kernel
theorem dX12_breaks_131 : decode cX12_breaks 131 = .ok (.iload_n 1, 1) := by decide +kernel
theorem dX12_breaks_132 : decode cX12_breaks 132 = .ok (.imul, 1) := by decide +kernel
theorem dX12_breaks_133 : decode cX12_breaks 133 = .ok (.iload 4, 2) := by decide +kernel
theorem dX12_breaks_135 : decode cX12_breaks 135 = .ok (.iadd, 1) := by decide +kernel
theorem dX12_breaks_136 : decode cX12_breaks 136 = .ok (.iconst 0, 1) := by decide +kernel
theorem dX12_breaks_137 : decode cX12_breaks 137 = .ok (.iastore, 1) := by decide +kernel
theorem dX12_breaks_138 : decode cX12_breaks 138 = .ok (.iinc 4 1, 3) := by decide +kernel
theorem dX12_breaks_141 : decode cX12_breaks 141 = .ok (.goto (-65), 3) := by decide +kernel
theorem dX12_breaks_144 : decode cX12_breaks 144 = .ok (.iload_n 3, 1) := by decide +kernel
theorem dX12_breaks_145 : decode cX12_breaks 145 = .ok (.ireturn, 1) := by decide +kernel
theorem dX12_round_0 : decode cX12_round 0 = .ok (.iload_n 1, 1) := by decide +kernel
theorem dX12_round_1 : decode cX12_round 1 = .ok (.iconst 1, 1) := by decide +kernel
theorem dX12_round_2 : decode cX12_round 2 = .ok (.bipush 99, 2) := by decide +kernel
theorem dX12_round_4 : decode cX12_round 4 = .ok (.invokestatic 260, 3) := by decide +kernel
theorem dX12_round_7 : decode cX12_round 7 = .ok (.ifCond .eq 12, 3) := by decide +kernel
theorem dX12_round_10 : decode cX12_round 10 = .ok (.aload_n 0, 1) := by decide +kernel
theorem dX12_round_11 : decode cX12_round 11 = .ok (.getfield 214, 3) := by decide +kernel
theorem dX12_round_14 : decode cX12_round 14 = .ok (.bipush 12, 2) := by decide +kernel
theorem dX12_round_16 : decode cX12_round 16 = .ok (.if_icmp .ne 5, 3) := by decide +kernel
theorem dX12_round_19 : decode cX12_round 19 = .ok (.iconst (-1), 1) := by decide +kernel
theorem dX12_round_20 : decode cX12_round 20 = .ok (.ireturn, 1) := by decide +kernel
theorem dX12_round_21 : decode cX12_round 21 = .ok (.aload_n 0, 1) := by decide +kernel
theorem dX12_round_22 : decode cX12_round 22 = .ok (.getfield 98, 3) := by decide +kernel
theorem dX12_round_25 : decode cX12_round 25 = .ok (.aload_n 0, 1) := by decide +kernel
theorem dX12_round_26 : decode cX12_round 26 = .ok (.getfield 214, 3) := by decide +kernel
theorem dX12_round_29 : decode cX12_round 29 = .ok (.iload_n 1, 1) := by decide +kernel
theorem dX12_round_30 : decode cX12_round 30 = .ok (.iastore, 1) := by decide +kernel
theorem dX12_round_31 : decode cX12_round 31 = .ok (.aload_n 0, 1) := by decide +kernel
theorem dX12_round_32 : decode cX12_round 32 = .ok (.getfield 101, 3) := by decide +kernel
theorem dX12_round_35 : decode cX12_round 35 = .ok (.aload_n 0, 1) := by decide +kernel
theorem dX12_round_36 : decode cX12_round 36 = .ok (.getfield 214, 3) := by decide +kernel
theorem dX12_round_39 : decode cX12_round 39 = .ok (.iconst 0, 1) := by decide +kernel
theorem dX12_round_40 : decode cX12_round 40 = .ok (.iastore, 1) := by decide +kernel
theorem dX12_round_41 : decode cX12_round 41 = .ok (.aload_n 0, 1) := by decide +kernel
theorem dX12_round_42 : decode cX12_round 42 = .ok (.dup, 1) := by decide +kernel
theorem dX12_round_43 : decode cX12_round 43 = .ok (.getfield 214, 3) := by decide +kernel
theorem dX12_round_46 : decode cX12_round 46 = .ok (.iconst 1, 1) := by decide +kernel
theorem dX12_round_47 : decode cX12_round 47 = .ok (.iadd, 1) := by decide +kernel
theorem dX12_round_48 : decode cX12_round 48 = .ok (.putfield 214, 3) := by decide +kernel
theorem dX12_round_51 : decode cX12_round 51 = .ok (.aload_n 0, 1) := by decide +kernel
theorem dX12_round_52 : decode cX12_round 52 = .ok (.getfield 214, 3) := by decide +kernel
theorem dX12_round_55 : decode cX12_round 55 = .ok (.iconst 1, 1) := by decide +kernel
theorem dX12_round_56 : decode cX12_round 56 = .ok (.isub, 1) := by decide +kernel
theorem dX12_round_57 : decode cX12_round 57 = .ok (.ireturn, 1) := by decide +kernel
theorem dX12_pair_0 : decode cX12_pair 0 = .ok (.aload_n 0, 1) := by decide +kernel
theorem dX12_pair_1 : decode cX12_pair 1 = .ok (.iload_n 1, 1) := by decide +kernel
theorem dX12_pair_2 : decode cX12_pair 2 = .ok (.invokevirtual 285, 3) := by decide +kernel
theorem dX12_pair_5 : decode cX12_pair 5 = .ok (.ifCond .eq 34, 3) := by decide +kernel
theorem dX12_pair_8 : decode cX12_pair 8 = .ok (.aload_n 0, 1) := by decide +kernel
theorem dX12_pair_9 : decode cX12_pair 9 = .ok (.iload_n 2, 1) := by decide +kernel
theorem dX12_pair_10 : decode cX12_pair 10 = .ok (.invokevirtual 288, 3) := by decide +kernel
theorem dX12_pair_13 : decode cX12_pair 13 = .ok (.ifCond .eq 26, 3) := by decide +kernel
theorem dX12_pair_16 : decode cX12_pair 16 = .ok (.aload_n 0, 1) := by decide +kernel
theorem dX12_pair_17 : decode cX12_pair 17 = .ok (.getfield 214, 3) := by decide +kernel
theorem dX12_pair_20 : decode cX12_pair 20 = .ok (.ifCond .eq 19, 3) := by decide +kernel
theorem dX12_pair_23 : decode cX12_pair 23 = .ok (.aload_n 0, 1) := by decide +kernel
theorem dX12_pair_24 : decode cX12_pair 24 = .ok (.getfield 101, 3) := by decide +kernel
theorem dX12_pair_27 : decode cX12_pair 27 = .ok (.aload_n 0, 1) := by decide +kernel
theorem dX12_pair_28 : decode cX12_pair 28 = .ok (.getfield 214, 3) := by decide +kernel
theorem dX12_pair_31 : decode cX12_pair 31 = .ok (.iconst 1, 1) := by decide +kernel
theorem dX12_pair_32 : decode cX12_pair 32 = .ok (.isub, 1) := by decide +kernel
theorem dX12_pair_33 : decode cX12_pair 33 = .ok (.iaload, 1) := by decide +kernel
theorem dX12_pair_34 : decode cX12_pair 34 = .ok (.bipush 10, 2) := by decide +kernel
theorem dX12_pair_36 : decode cX12_pair 36 = .ok (.if_icmp .ne 5, 3) := by decide +kernel
theorem dX12_pair_39 : decode cX12_pair 39 = .ok (.iconst (-1), 1) := by decide +kernel
theorem dX12_pair_40 : decode cX12_pair 40 = .ok (.ireturn, 1) := by decide +kernel
theorem dX12_pair_41 : decode cX12_pair 41 = .ok (.aload_n 0, 1) := by decide +kernel
theorem dX12_pair_42 : decode cX12_pair 42 = .ok (.getfield 214, 3) := by decide +kernel
theorem dX12_pair_45 : decode cX12_pair 45 = .ok (.iconst 1, 1) := by decide +kernel
theorem dX12_pair_46 : decode cX12_pair 46 = .ok (.isub, 1) := by decide +kernel
theorem dX12_pair_47 : decode cX12_pair 47 = .ok (.istore_n 3, 1) := by decide +kernel
theorem dX12_pair_48 : decode cX12_pair 48 = .ok (.aload_n 0, 1) := by decide +kernel
theorem dX12_pair_49 : decode cX12_pair 49 = .ok (.getfield 104, 3) := by decide +kernel
theorem dX12_pair_52 : decode cX12_pair 52 = .ok (.bipush 10, 2) := by decide +kernel
theorem dX12_pair_54 : decode cX12_pair 54 = .ok (.iload_n 3, 1) := by decide +kernel
theorem dX12_pair_55 : decode cX12_pair 55 = .ok (.imul, 1) := by decide +kernel
theorem dX12_pair_56 : decode cX12_pair 56 = .ok (.aload_n 0, 1) := by decide +kernel
theorem dX12_pair_57 : decode cX12_pair 57 = .ok (.getfield 101, 3) := by decide +kernel
theorem dX12_pair_60 : decode cX12_pair 60 = .ok (.iload_n 3, 1) := by decide +kernel
theorem dX12_pair_61 : decode cX12_pair 61 = .ok (.iaload, 1) := by decide +kernel
theorem dX12_pair_62 : decode cX12_pair 62 = .ok (.iadd, 1) := by decide +kernel
theorem dX12_pair_63 : decode cX12_pair 63 = .ok (.bipush 10, 2) := by decide +kernel
theorem dX12_pair_65 : decode cX12_pair 65 = .ok (.iload_n 1, 1) := by decide +kernel
theorem dX12_pair_66 : decode cX12_pair 66 = .ok (.imul, 1) := by decide +kernel
theorem dX12_pair_67 : decode cX12_pair 67 = .ok (.iload_n 2, 1) := by decide +kernel
theorem dX12_pair_68 : decode cX12_pair 68 = .ok (.iadd, 1) := by decide +kernel
theorem dX12_pair_69 : decode cX12_pair 69 = .ok (.iastore, 1) := by decide +kernel
theorem dX12_pair_70 : decode cX12_pair 70 = .ok (.aload_n 0, 1) := by decide +kernel
theorem dX12_pair_71 : decode cX12_pair 71 = .ok (.getfield 101, 3) := by decide +kernel
theorem dX12_pair_74 : decode cX12_pair 74 = .ok (.iload_n 3, 1) := by decide +kernel
theorem dX12_pair_75 : decode cX12_pair 75 = .ok (.dup2, 1) := by decide +kernel
theorem dX12_pair_76 : decode cX12_pair 76 = .ok (.iaload, 1) := by decide +kernel
theorem dX12_pair_77 : decode cX12_pair 77 = .ok (.iconst 1, 1) := by decide +kernel
theorem dX12_pair_78 : decode cX12_pair 78 = .ok (.iadd, 1) := by decide +kernel
theorem dX12_pair_79 : decode cX12_pair 79 = .ok (.iastore, 1) := by decide +kernel
theorem dX12_pair_80 : decode cX12_pair 80 = .ok (.aload_n 0, 1) := by decide +kernel
theorem dX12_pair_81 : decode cX12_pair 81 = .ok (.getfield 101, 3) := by decide +kernel
theorem dX12_pair_84 : decode cX12_pair 84 = .ok (.iload_n 3, 1) := by decide +kernel
theorem dX12_pair_85 : decode cX12_pair 85 = .ok (.iaload, 1) := by decide +kernel
theorem dX12_pair_86 : decode cX12_pair 86 = .ok (.ireturn, 1) := by decide +kernel
theorem dX12_hush_0 : decode cX12_hush 0 = .ok (.aload_n 0, 1) := by decide +kernel
theorem dX12_hush_1 : decode cX12_hush 1 = .ok (.getfield 214, 3) := by decide +kernel
theorem dX12_hush_4 : decode cX12_hush 4 = .ok (.istore_n 1, 1) := by decide +kernel
theorem dX12_hush_5 : decode cX12_hush 5 = .ok (.aload_n 0, 1) := by decide +kernel
theorem dX12_hush_6 : decode cX12_hush 6 = .ok (.iconst 0, 1) := by decide +kernel
theorem dX12_hush_7 : decode cX12_hush 7 = .ok (.putfield 214, 3) := by decide +kernel
theorem dX12_hush_10 : decode cX12_hush 10 = .ok (.iload_n 1, 1) := by decide +kernel
theorem dX12_hush_11 : decode cX12_hush 11 = .ok (.ireturn, 1) := by decide +kernel
theorem dX12_isSound_0 : decode cX12_isSound 0 = .ok (.iconst 0, 1) := by decide +kernel
theorem dX12_isSound_1 : decode cX12_isSound 1 = .ok (.istore_n 2, 1) := by decide +kernel
theorem dX12_isSound_2 : decode cX12_isSound 2 = .ok (.iconst 0, 1) := by decide +kernel
theorem dX12_isSound_3 : decode cX12_isSound 3 = .ok (.istore_n 3, 1) := by decide +kernel
theorem dX12_isSound_4 : decode cX12_isSound 4 = .ok (.iconst 0, 1) := by decide +kernel
theorem dX12_isSound_5 : decode cX12_isSound 5 = .ok (.istore 4, 2) := by decide +kernel
theorem dX12_isSound_7 : decode cX12_isSound 7 = .ok (.iload 4, 2) := by decide +kernel
theorem dX12_isSound_9 : decode cX12_isSound 9 = .ok (.aload_n 0, 1) := by decide +kernel
theorem dX12_isSound_10 : decode cX12_isSound 10 = .ok (.getfield 101, 3) := by decide +kernel
theorem dX12_isSound_13 : decode cX12_isSound 13 = .ok (.iload_n 1, 1) := by decide +kernel
theorem dX12_isSound_14 : decode cX12_isSound 14 = .ok (.iaload, 1) := by decide +kernel
theorem dX12_isSound_15 : decode cX12_isSound 15 = .ok (.if_icmp .ge 87, 3) := by decide +kernel
theorem dX12_isSound_18 : decode cX12_isSound 18 = .ok (.aload_n 0, 1) := by decide +kernel
theorem dX12_isSound_19 : decode cX12_isSound 19 = .ok (.getfield 104, 3) := by decide +kernel
theorem dX12_isSound_22 : decode cX12_isSound 22 = .ok (.bipush 10, 2) := by decide +kernel
theorem dX12_isSound_24 : decode cX12_isSound 24 = .ok (.iload_n 1, 1) := by decide +kernel
theorem dX12_isSound_25 : decode cX12_isSound 25 = .ok (.imul, 1) := by decide +kernel
theorem dX12_isSound_26 : decode cX12_isSound 26 = .ok (.iload 4, 2) := by decide +kernel
theorem dX12_isSound_28 : decode cX12_isSound 28 = .ok (.iadd, 1) := by decide +kernel
theorem dX12_isSound_29 : decode cX12_isSound 29 = .ok (.iaload, 1) := by decide +kernel
theorem dX12_isSound_30 : decode cX12_isSound 30 = .ok (.istore 5, 2) := by decide +kernel
theorem dX12_isSound_32 : decode cX12_isSound 32 = .ok (.iload_n 2, 1) := by decide +kernel
theorem dX12_isSound_33 : decode cX12_isSound 33 = .ok (.iload 5, 2) := by decide +kernel
theorem dX12_isSound_35 : decode cX12_isSound 35 = .ok (.bipush 10, 2) := by decide +kernel
theorem dX12_isSound_37 : decode cX12_isSound 37 = .ok (.idiv, 1) := by decide +kernel
theorem dX12_isSound_38 : decode cX12_isSound 38 = .ok (.ishr, 1) := by decide +kernel
theorem dX12_isSound_39 : decode cX12_isSound 39 = .ok (.iconst 1, 1) := by decide +kernel
theorem dX12_isSound_40 : decode cX12_isSound 40 = .ok (.iand, 1) := by decide +kernel
theorem dX12_isSound_41 : decode cX12_isSound 41 = .ok (.iconst 1, 1) := by decide +kernel
theorem dX12_isSound_42 : decode cX12_isSound 42 = .ok (.if_icmp .eq 32, 3) := by decide +kernel
theorem dX12_isSound_45 : decode cX12_isSound 45 = .ok (.iload_n 3, 1) := by decide +kernel
theorem dX12_isSound_46 : decode cX12_isSound 46 = .ok (.iload 5, 2) := by decide +kernel
theorem dX12_isSound_48 : decode cX12_isSound 48 = .ok (.bipush 10, 2) := by decide +kernel
theorem dX12_isSound_50 : decode cX12_isSound 50 = .ok (.irem, 1) := by decide +kernel
theorem dX12_isSound_51 : decode cX12_isSound 51 = .ok (.ishr, 1) := by decide +kernel
theorem dX12_isSound_52 : decode cX12_isSound 52 = .ok (.iconst 1, 1) := by decide +kernel
theorem dX12_isSound_53 : decode cX12_isSound 53 = .ok (.iand, 1) := by decide +kernel
theorem dX12_isSound_54 : decode cX12_isSound 54 = .ok (.iconst 1, 1) := by decide +kernel
theorem dX12_isSound_55 : decode cX12_isSound 55 = .ok (.if_icmp .eq 19, 3) := by decide +kernel
theorem dX12_isSound_58 : decode cX12_isSound 58 = .ok (.aload_n 0, 1) := by decide +kernel
theorem dX12_isSound_59 : decode cX12_isSound 59 = .ok (.getfield 62, 3) := by decide +kernel
theorem dX12_isSound_62 : decode cX12_isSound 62 = .ok (.iload 5, 2) := by decide +kernel
theorem dX12_isSound_64 : decode cX12_isSound 64 = .ok (.iaload, 1) := by decide +kernel
theorem dX12_isSound_65 : decode cX12_isSound 65 = .ok (.aload_n 0, 1) := by decide +kernel
theorem dX12_isSound_66 : decode cX12_isSound 66 = .ok (.getfield 98, 3) := by decide +kernel
theorem dX12_isSound_69 : decode cX12_isSound 69 = .ok (.iload_n 1, 1) := by decide +kernel
theorem dX12_isSound_70 : decode cX12_isSound 70 = .ok (.iaload, 1) := by decide +kernel
theorem dX12_isSound_71 : decode cX12_isSound 71 = .ok (.if_icmp .ge 5, 3) := by decide +kernel
theorem dX12_isSound_74 : decode cX12_isSound 74 = .ok (.iconst 0, 1) := by decide +kernel
theorem dX12_isSound_75 : decode cX12_isSound 75 = .ok (.ireturn, 1) := by decide +kernel
theorem dX12_isSound_76 : decode cX12_isSound 76 = .ok (.iload_n 2, 1) := by decide +kernel
theorem dX12_isSound_77 : decode cX12_isSound 77 = .ok (.iconst 1, 1) := by decide +kernel
theorem dX12_isSound_78 : decode cX12_isSound 78 = .ok (.iload 5, 2) := by decide +kernel
theorem dX12_isSound_80 : decode cX12_isSound 80 = .ok (.bipush 10, 2) := by decide +kernel
theorem dX12_isSound_82 : decode cX12_isSound 82 = .ok (.idiv, 1) := by decide +kernel
theorem dX12_isSound_83 : decode cX12_isSound 83 = .ok (.ishl, 1) := by decide +kernel
theorem dX12_isSound_84 : decode cX12_isSound 84 = .ok (.ior, 1) := by decide +kernel
theorem dX12_isSound_85 : decode cX12_isSound 85 = .ok (.istore_n 2, 1) := by decide +kernel
theorem dX12_isSound_86 : decode cX12_isSound 86 = .ok (.iload_n 3, 1) := by decide +kernel
theorem dX12_isSound_87 : decode cX12_isSound 87 = .ok (.iconst 1, 1) := by decide +kernel
theorem dX12_isSound_88 : decode cX12_isSound 88 = .ok (.iload 5, 2) := by decide +kernel
theorem dX12_isSound_90 : decode cX12_isSound 90 = .ok (.bipush 10, 2) := by decide +kernel
theorem dX12_isSound_92 : decode cX12_isSound 92 = .ok (.irem, 1) := by decide +kernel
theorem dX12_isSound_93 : decode cX12_isSound 93 = .ok (.ishl, 1) := by decide +kernel
theorem dX12_isSound_94 : decode cX12_isSound 94 = .ok (.ior, 1) := by decide +kernel
theorem dX12_isSound_95 : decode cX12_isSound 95 = .ok (.istore_n 3, 1) := by decide +kernel
theorem dX12_isSound_96 : decode cX12_isSound 96 = .ok (.iinc 4 1, 3) := by decide +kernel
theorem dX12_isSound_99 : decode cX12_isSound 99 = .ok (.goto (-92), 3) := by decide +kernel
theorem dX12_isSound_102 : decode cX12_isSound 102 = .ok (.iconst 1, 1) := by decide +kernel
theorem dX12_isSound_103 : decode cX12_isSound 103 = .ok (.ireturn, 1) := by decide +kernel
theorem dX12_lackedOf_0 : decode cX12_lackedOf 0 = .ok (.iconst 0, 1) := by decide +kernel
theorem dX12_lackedOf_1 : decode cX12_lackedOf 1 = .ok (.istore_n 1, 1) := by decide +kernel
theorem dX12_lackedOf_2 : decode cX12_lackedOf 2 = .ok (.iconst 0, 1) := by decide +kernel
theorem dX12_lackedOf_3 : decode cX12_lackedOf 3 = .ok (.istore_n 2, 1) := by decide +kernel
theorem dX12_lackedOf_4 : decode cX12_lackedOf 4 = .ok (.iload_n 2, 1) := by decide +kernel
theorem dX12_lackedOf_5 : decode cX12_lackedOf 5 = .ok (.bipush 80, 2) := by decide +kernel
theorem dX12_lackedOf_7 : decode cX12_lackedOf 7 = .ok (.if_icmp .ge 18, 3) := by decide +kernel
theorem dX12_lackedOf_10 : decode cX12_lackedOf 10 = .ok (.iload_n 1, 1) := by decide +kernel
theorem dX12_lackedOf_11 : decode cX12_lackedOf 11 = .ok (.aload_n 0, 1) := by decide +kernel
theorem dX12_lackedOf_12 : decode cX12_lackedOf 12 = .ok (.getfield 62, 3) := by decide +kernel
theorem dX12_lackedOf_15 : decode cX12_lackedOf 15 = .ok (.iload_n 2, 1) := by decide +kernel
theorem dX12_lackedOf_16 : decode cX12_lackedOf 16 = .ok (.iaload, 1) := by decide +kernel
theorem dX12_lackedOf_17 : decode cX12_lackedOf 17 = .ok (.iadd, 1) := by decide +kernel
theorem dX12_lackedOf_18 : decode cX12_lackedOf 18 = .ok (.istore_n 1, 1) := by decide +kernel
theorem dX12_lackedOf_19 : decode cX12_lackedOf 19 = .ok (.iinc 2 1, 3) := by decide +kernel
theorem dX12_lackedOf_22 : decode cX12_lackedOf 22 = .ok (.goto (-18), 3) := by decide +kernel
theorem dX12_lackedOf_25 : decode cX12_lackedOf 25 = .ok (.iload_n 1, 1) := by decide +kernel
theorem dX12_lackedOf_26 : decode cX12_lackedOf 26 = .ok (.ireturn, 1) := by decide +kernel
theorem dX12_judge_0 : decode cX12_judge 0 = .ok (.iload_n 1, 1) := by decide +kernel
theorem dX12_judge_1 : decode cX12_judge 1 = .ok (.iconst 0, 1) := by decide +kernel
theorem dX12_judge_2 : decode cX12_judge 2 = .ok (.iconst 2, 1) := by decide +kernel
theorem dX12_judge_3 : decode cX12_judge 3 = .ok (.invokestatic 260, 3) := by decide +kernel
theorem dX12_judge_6 : decode cX12_judge 6 = .ok (.ifCond .ne 5, 3) := by decide +kernel
theorem dX12_judge_9 : decode cX12_judge 9 = .ok (.iconst (-1), 1) := by decide +kernel
theorem dX12_judge_10 : decode cX12_judge 10 = .ok (.ireturn, 1) := by decide +kernel
theorem dX12_judge_11 : decode cX12_judge 11 = .ok (.aload_n 0, 1) := by decide +kernel
theorem dX12_judge_12 : decode cX12_judge 12 = .ok (.invokevirtual 291, 3) := by decide +kernel
theorem dX12_judge_15 : decode cX12_judge 15 = .ok (.iconst 0, 1) := by decide +kernel
theorem dX12_judge_16 : decode cX12_judge 16 = .ok (.istore_n 2, 1) := by decide +kernel
theorem dX12_judge_17 : decode cX12_judge 17 = .ok (.iconst 0, 1) := by decide +kernel
theorem dX12_judge_18 : decode cX12_judge 18 = .ok (.istore_n 3, 1) := by decide +kernel
theorem dX12_judge_19 : decode cX12_judge 19 = .ok (.iload_n 3, 1) := by decide +kernel
theorem dX12_judge_20 : decode cX12_judge 20 = .ok (.aload_n 0, 1) := by decide +kernel
theorem dX12_judge_21 : decode cX12_judge 21 = .ok (.getfield 214, 3) := by decide +kernel
theorem dX12_judge_24 : decode cX12_judge 24 = .ok (.if_icmp .ge 72, 3) := by decide +kernel
theorem dX12_judge_27 : decode cX12_judge 27 = .ok (.aload_n 0, 1) := by decide +kernel
theorem dX12_judge_28 : decode cX12_judge 28 = .ok (.iload_n 3, 1) := by decide +kernel
theorem dX12_judge_29 : decode cX12_judge 29 = .ok (.invokevirtual 367, 3) := by decide +kernel
theorem dX12_judge_32 : decode cX12_judge 32 = .ok (.ifCond .eq 64, 3) := by decide +kernel
theorem dX12_judge_35 : decode cX12_judge 35 = .ok (.iconst 0, 1) := by decide +kernel
theorem dX12_judge_36 : decode cX12_judge 36 = .ok (.istore 4, 2) := by decide +kernel
theorem dX12_judge_38 : decode cX12_judge 38 = .ok (.iload 4, 2) := by decide +kernel
theorem dX12_judge_40 : decode cX12_judge 40 = .ok (.aload_n 0, 1) := by decide +kernel
theorem dX12_judge_41 : decode cX12_judge 41 = .ok (.getfield 101, 3) := by decide +kernel
theorem dX12_judge_44 : decode cX12_judge 44 = .ok (.iload_n 3, 1) := by decide +kernel
theorem dX12_judge_45 : decode cX12_judge 45 = .ok (.iaload, 1) := by decide +kernel
theorem dX12_judge_46 : decode cX12_judge 46 = .ok (.if_icmp .ge 35, 3) := by decide +kernel
theorem dX12_judge_49 : decode cX12_judge 49 = .ok (.aload_n 0, 1) := by decide +kernel
theorem dX12_judge_50 : decode cX12_judge 50 = .ok (.getfield 62, 3) := by decide +kernel
theorem dX12_judge_53 : decode cX12_judge 53 = .ok (.aload_n 0, 1) := by decide +kernel
theorem dX12_judge_54 : decode cX12_judge 54 = .ok (.getfield 104, 3) := by decide +kernel
theorem dX12_judge_57 : decode cX12_judge 57 = .ok (.bipush 10, 2) := by decide +kernel
theorem dX12_judge_59 : decode cX12_judge 59 = .ok (.iload_n 3, 1) := by decide +kernel
theorem dX12_judge_60 : decode cX12_judge 60 = .ok (.imul, 1) := by decide +kernel
theorem dX12_judge_61 : decode cX12_judge 61 = .ok (.iload 4, 2) := by decide +kernel
theorem dX12_judge_63 : decode cX12_judge 63 = .ok (.iadd, 1) := by decide +kernel
theorem dX12_judge_64 : decode cX12_judge 64 = .ok (.iaload, 1) := by decide +kernel
theorem dX12_judge_65 : decode cX12_judge 65 = .ok (.dup2, 1) := by decide +kernel
theorem dX12_judge_66 : decode cX12_judge 66 = .ok (.iaload, 1) := by decide +kernel
theorem dX12_judge_67 : decode cX12_judge 67 = .ok (.aload_n 0, 1) := by decide +kernel
theorem dX12_judge_68 : decode cX12_judge 68 = .ok (.getfield 98, 3) := by decide +kernel
theorem dX12_judge_71 : decode cX12_judge 71 = .ok (.iload_n 3, 1) := by decide +kernel
theorem dX12_judge_72 : decode cX12_judge 72 = .ok (.iaload, 1) := by decide +kernel
theorem dX12_judge_73 : decode cX12_judge 73 = .ok (.isub, 1) := by decide +kernel
theorem dX12_judge_74 : decode cX12_judge 74 = .ok (.iastore, 1) := by decide +kernel
theorem dX12_judge_75 : decode cX12_judge 75 = .ok (.iinc 4 1, 3) := by decide +kernel
theorem dX12_judge_78 : decode cX12_judge 78 = .ok (.goto (-40), 3) := by decide +kernel
theorem dX12_judge_81 : decode cX12_judge 81 = .ok (.iload_n 2, 1) := by decide +kernel
theorem dX12_judge_82 : decode cX12_judge 82 = .ok (.aload_n 0, 1) := by decide +kernel
theorem dX12_judge_83 : decode cX12_judge 83 = .ok (.getfield 98, 3) := by decide +kernel
theorem dX12_judge_86 : decode cX12_judge 86 = .ok (.iload_n 3, 1) := by decide +kernel
theorem dX12_judge_87 : decode cX12_judge 87 = .ok (.iaload, 1) := by decide +kernel
theorem dX12_judge_88 : decode cX12_judge 88 = .ok (.iadd, 1) := by decide +kernel
theorem dX12_judge_89 : decode cX12_judge 89 = .ok (.istore_n 2, 1) := by decide +kernel
theorem dX12_judge_90 : decode cX12_judge 90 = .ok (.iinc 3 1, 3) := by decide +kernel
theorem dX12_judge_93 : decode cX12_judge 93 = .ok (.goto (-74), 3) := by decide +kernel
theorem dX12_judge_96 : decode cX12_judge 96 = .ok (.iload_n 1, 1) := by decide +kernel
theorem dX12_judge_97 : decode cX12_judge 97 = .ok (.iconst 1, 1) := by decide +kernel
theorem dX12_judge_98 : decode cX12_judge 98 = .ok (.if_icmp .ne 10, 3) := by decide +kernel
theorem dX12_judge_101 : decode cX12_judge 101 = .ok (.aload_n 0, 1) := by decide +kernel
theorem dX12_judge_102 : decode cX12_judge 102 = .ok (.invokevirtual 370, 3) := by decide +kernel
theorem dX12_judge_105 : decode cX12_judge 105 = .ok (.goto 25, 3) := by decide +kernel
theorem dX12_judge_108 : decode cX12_judge 108 = .ok (.iload_n 1, 1) := by decide +kernel
theorem dX12_judge_109 : decode cX12_judge 109 = .ok (.iconst 2, 1) := by decide +kernel
theorem dX12_judge_110 : decode cX12_judge 110 = .ok (.if_icmp .ne 7, 3) := by decide +kernel
theorem dX12_judge_113 : decode cX12_judge 113 = .ok (.iload_n 2, 1) := by decide +kernel
theorem dX12_judge_114 : decode cX12_judge 114 = .ok (.goto 16, 3) := by decide +kernel
theorem dX12_judge_117 : decode cX12_judge 117 = .ok (.iload_n 3, 1) := by decide +kernel
theorem dX12_judge_118 : decode cX12_judge 118 = .ok (.aload_n 0, 1) := by decide +kernel
theorem dX12_judge_119 : decode cX12_judge 119 = .ok (.getfield 214, 3) := by decide +kernel
theorem dX12_judge_122 : decode cX12_judge 122 = .ok (.if_icmp .ge 7, 3) := by decide +kernel
theorem dX12_judge_125 : decode cX12_judge 125 = .ok (.iload_n 3, 1) := by decide +kernel
theorem dX12_judge_126 : decode cX12_judge 126 = .ok (.goto 4, 3) := by decide +kernel
theorem dX12_judge_129 : decode cX12_judge 129 = .ok (.iconst (-1), 1) := by decide +kernel
theorem dX12_judge_130 : decode cX12_judge 130 = .ok (.ireturn, 1) := by decide +kernel
theorem dX12_sight_0 : decode cX12_sight 0 = .ok (.iload_n 1, 1) := by decide +kernel
theorem dX12_sight_1 : decode cX12_sight 1 = .ok (.iconst 0, 1) := by decide +kernel
theorem dX12_sight_2 : decode cX12_sight 2 = .ok (.sipush 999, 3) := by decide +kernel
theorem dX12_sight_5 : decode cX12_sight 5 = .ok (.invokestatic 260, 3) := by decide +kernel
theorem dX12_sight_8 : decode cX12_sight 8 = .ok (.ifCond .eq 33, 3) := by decide +kernel
theorem dX12_sight_11 : decode cX12_sight 11 = .ok (.aload_n 0, 1) := by decide +kernel
theorem dX12_sight_12 : decode cX12_sight 12 = .ok (.iload_n 2, 1) := by decide +kernel
theorem dX12_sight_13 : decode cX12_sight 13 = .ok (.invokevirtual 285, 3) := by decide +kernel
theorem dX12_sight_16 : decode cX12_sight 16 = .ok (.ifCond .eq 25, 3) := by decide +kernel
theorem dX12_sight_19 : decode cX12_sight 19 = .ok (.iload_n 3, 1) := by decide +kernel
theorem dX12_sight_20 : decode cX12_sight 20 = .ok (.iconst (-1), 1) := by decide +kernel
theorem dX12_sight_21 : decode cX12_sight 21 = .ok (.if_icmp .eq 11, 3) := by decide +kernel
theorem dX12_sight_24 : decode cX12_sight 24 = .ok (.aload_n 0, 1) := by decide +kernel
theorem dX12_sight_25 : decode cX12_sight 25 = .ok (.iload_n 3, 1) := by decide +kernel
theorem dX12_sight_26 : decode cX12_sight 26 = .ok (.invokevirtual 288, 3) := by decide +kernel
theorem dX12_sight_29 : decode cX12_sight 29 = .ok (.ifCond .eq 12, 3) := by decide +kernel
theorem dX12_sight_32 : decode cX12_sight 32 = .ok (.aload_n 0, 1) := by decide +kernel
theorem dX12_sight_33 : decode cX12_sight 33 = .ok (.getfield 211, 3) := by decide +kernel
theorem dX12_sight_36 : decode cX12_sight 36 = .ok (.bipush 20, 2) := by decide +kernel
theorem dX12_sight_38 : decode cX12_sight 38 = .ok (.if_icmp .ne 5, 3) := by decide +kernel
theorem dX12_sight_41 : decode cX12_sight 41 = .ok (.iconst (-1), 1) := by decide +kernel
theorem dX12_sight_42 : decode cX12_sight 42 = .ok (.ireturn, 1) := by decide +kernel
theorem dX12_sight_43 : decode cX12_sight 43 = .ok (.aload_n 0, 1) := by decide +kernel
theorem dX12_sight_44 : decode cX12_sight 44 = .ok (.getfield 107, 3) := by decide +kernel
theorem dX12_sight_47 : decode cX12_sight 47 = .ok (.aload_n 0, 1) := by decide +kernel
theorem dX12_sight_48 : decode cX12_sight 48 = .ok (.getfield 211, 3) := by decide +kernel
theorem dX12_sight_51 : decode cX12_sight 51 = .ok (.iload_n 1, 1) := by decide +kernel
theorem dX12_sight_52 : decode cX12_sight 52 = .ok (.iastore, 1) := by decide +kernel
theorem dX12_sight_53 : decode cX12_sight 53 = .ok (.aload_n 0, 1) := by decide +kernel
theorem dX12_sight_54 : decode cX12_sight 54 = .ok (.getfield 110, 3) := by decide +kernel
theorem dX12_sight_57 : decode cX12_sight 57 = .ok (.aload_n 0, 1) := by decide +kernel
theorem dX12_sight_58 : decode cX12_sight 58 = .ok (.getfield 211, 3) := by decide +kernel
theorem dX12_sight_61 : decode cX12_sight 61 = .ok (.iload_n 2, 1) := by decide +kernel
theorem dX12_sight_62 : decode cX12_sight 62 = .ok (.iastore, 1) := by decide +kernel
theorem dX12_sight_63 : decode cX12_sight 63 = .ok (.aload_n 0, 1) := by decide +kernel
theorem dX12_sight_64 : decode cX12_sight 64 = .ok (.getfield 113, 3) := by decide +kernel
theorem dX12_sight_67 : decode cX12_sight 67 = .ok (.aload_n 0, 1) := by decide +kernel
theorem dX12_sight_68 : decode cX12_sight 68 = .ok (.getfield 211, 3) := by decide +kernel
theorem dX12_sight_71 : decode cX12_sight 71 = .ok (.iload_n 3, 1) := by decide +kernel
theorem dX12_sight_72 : decode cX12_sight 72 = .ok (.iastore, 1) := by decide +kernel
theorem dX12_sight_73 : decode cX12_sight 73 = .ok (.aload_n 0, 1) := by decide +kernel
theorem dX12_sight_74 : decode cX12_sight 74 = .ok (.getfield 116, 3) := by decide +kernel
theorem dX12_sight_77 : decode cX12_sight 77 = .ok (.aload_n 0, 1) := by decide +kernel
theorem dX12_sight_78 : decode cX12_sight 78 = .ok (.getfield 211, 3) := by decide +kernel
theorem dX12_sight_81 : decode cX12_sight 81 = .ok (.aload_n 0, 1) := by decide +kernel
theorem dX12_sight_82 : decode cX12_sight 82 = .ok (.getfield 373, 3) := by decide +kernel
theorem dX12_sight_85 : decode cX12_sight 85 = .ok (.iastore, 1) := by decide +kernel
theorem dX12_sight_86 : decode cX12_sight 86 = .ok (.aload_n 0, 1) := by decide +kernel
theorem dX12_sight_87 : decode cX12_sight 87 = .ok (.getfield 119, 3) := by decide +kernel
theorem dX12_sight_90 : decode cX12_sight 90 = .ok (.aload_n 0, 1) := by decide +kernel
theorem dX12_sight_91 : decode cX12_sight 91 = .ok (.getfield 211, 3) := by decide +kernel
theorem dX12_sight_94 : decode cX12_sight 94 = .ok (.iconst (-1), 1) := by decide +kernel
theorem dX12_sight_95 : decode cX12_sight 95 = .ok (.iastore, 1) := by decide +kernel
theorem dX12_sight_96 : decode cX12_sight 96 = .ok (.aload_n 0, 1) := by decide +kernel
theorem dX12_sight_97 : decode cX12_sight 97 = .ok (.dup, 1) := by decide +kernel
theorem dX12_sight_98 : decode cX12_sight 98 = .ok (.getfield 211, 3) := by decide +kernel
theorem dX12_sight_101 : decode cX12_sight 101 = .ok (.iconst 1, 1) := by decide +kernel
theorem dX12_sight_102 : decode cX12_sight 102 = .ok (.iadd, 1) := by decide +kernel
theorem dX12_sight_103 : decode cX12_sight 103 = .ok (.putfield 211, 3) := by decide +kernel
theorem dX12_sight_106 : decode cX12_sight 106 = .ok (.aload_n 0, 1) := by decide +kernel
theorem dX12_sight_107 : decode cX12_sight 107 = .ok (.getfield 211, 3) := by decide +kernel
theorem dX12_sight_110 : decode cX12_sight 110 = .ok (.iconst 1, 1) := by decide +kernel
theorem dX12_sight_111 : decode cX12_sight 111 = .ok (.isub, 1) := by decide +kernel
theorem dX12_sight_112 : decode cX12_sight 112 = .ok (.ireturn, 1) := by decide +kernel
theorem dX12_untell_0 : decode cX12_untell 0 = .ok (.iload_n 1, 1) := by decide +kernel
theorem dX12_untell_1 : decode cX12_untell 1 = .ok (.iconst 0, 1) := by decide +kernel
theorem dX12_untell_2 : decode cX12_untell 2 = .ok (.aload_n 0, 1) := by decide +kernel
theorem dX12_untell_3 : decode cX12_untell 3 = .ok (.getfield 211, 3) := by decide +kernel
theorem dX12_untell_6 : decode cX12_untell 6 = .ok (.iconst 1, 1) := by decide +kernel
theorem dX12_untell_7 : decode cX12_untell 7 = .ok (.isub, 1) := by decide +kernel
theorem dX12_untell_8 : decode cX12_untell 8 = .ok (.invokestatic 260, 3) := by decide +kernel
theorem dX12_untell_11 : decode cX12_untell 11 = .ok (.ifCond .eq 12, 3) := by decide +kernel
theorem dX12_untell_14 : decode cX12_untell 14 = .ok (.aload_n 0, 1) := by decide +kernel
theorem dX12_untell_15 : decode cX12_untell 15 = .ok (.getfield 119, 3) := by decide +kernel
theorem dX12_untell_18 : decode cX12_untell 18 = .ok (.iload_n 1, 1) := by decide +kernel
theorem dX12_untell_19 : decode cX12_untell 19 = .ok (.iaload, 1) := by decide +kernel
theorem dX12_untell_20 : decode cX12_untell 20 = .ok (.ifCond .lt 5, 3) := by decide +kernel
theorem dX12_untell_23 : decode cX12_untell 23 = .ok (.iconst 0, 1) := by decide +kernel
theorem dX12_untell_24 : decode cX12_untell 24 = .ok (.ireturn, 1) := by decide +kernel
theorem dX12_untell_25 : decode cX12_untell 25 = .ok (.aload_n 0, 1) := by decide +kernel
theorem dX12_untell_26 : decode cX12_untell 26 = .ok (.getfield 119, 3) := by decide +kernel
theorem dX12_untell_29 : decode cX12_untell 29 = .ok (.iload_n 1, 1) := by decide +kernel
theorem dX12_untell_30 : decode cX12_untell 30 = .ok (.aload_n 0, 1) := by decide +kernel
theorem dX12_untell_31 : decode cX12_untell 31 = .ok (.getfield 373, 3) := by decide +kernel
theorem dX12_untell_34 : decode cX12_untell 34 = .ok (.iastore, 1) := by decide +kernel
theorem dX12_untell_35 : decode cX12_untell 35 = .ok (.iconst 1, 1) := by decide +kernel
theorem dX12_untell_36 : decode cX12_untell 36 = .ok (.ireturn, 1) := by decide +kernel
theorem dX12_later_0 : decode cX12_later 0 = .ok (.iload_n 1, 1) := by decide +kernel
theorem dX12_later_1 : decode cX12_later 1 = .ok (.iconst 0, 1) := by decide +kernel
theorem dX12_later_2 : decode cX12_later 2 = .ok (.sipush 1000, 3) := by decide +kernel
theorem dX12_later_5 : decode cX12_later 5 = .ok (.invokestatic 260, 3) := by decide +kernel
theorem dX12_later_8 : decode cX12_later 8 = .ok (.ifCond .eq 15, 3) := by decide +kernel
theorem dX12_later_11 : decode cX12_later 11 = .ok (.aload_n 0, 1) := by decide +kernel
theorem dX12_later_12 : decode cX12_later 12 = .ok (.getfield 373, 3) := by decide +kernel
theorem dX12_later_15 : decode cX12_later 15 = .ok (.iload_n 1, 1) := by decide +kernel
theorem dX12_later_16 : decode cX12_later 16 = .ok (.iadd, 1) := by decide +kernel
theorem dX12_later_17 : decode cX12_later 17 = .ok (.ldc_w 376, 3) := by decide +kernel
theorem dX12_later_20 : decode cX12_later 20 = .ok (.if_icmp .le 5, 3) := by decide +kernel
theorem dX12_later_23 : decode cX12_later 23 = .ok (.iconst (-1), 1) := by decide +kernel
theorem dX12_later_24 : decode cX12_later 24 = .ok (.ireturn, 1) := by decide +kernel
theorem dX12_later_25 : decode cX12_later 25 = .ok (.aload_n 0, 1) := by decide +kernel
theorem dX12_later_26 : decode cX12_later 26 = .ok (.dup, 1) := by decide +kernel
theorem dX12_later_27 : decode cX12_later 27 = .ok (.getfield 373, 3) := by decide +kernel
theorem dX12_later_30 : decode cX12_later 30 = .ok (.iload_n 1, 1) := by decide +kernel
theorem dX12_later_31 : decode cX12_later 31 = .ok (.iadd, 1) := by decide +kernel
theorem dX12_later_32 : decode cX12_later 32 = .ok (.putfield 373, 3) := by decide +kernel
theorem dX12_later_35 : decode cX12_later 35 = .ok (.aload_n 0, 1) := by decide +kernel
theorem dX12_later_36 : decode cX12_later 36 = .ok (.getfield 373, 3) := by decide +kernel
theorem dX12_later_39 : decode cX12_later 39 = .ok (.ireturn, 1) := by decide +kernel
theorem dX12_standsWith_0 : decode cX12_standsWith 0 = .ok (.iconst 0, 1) := by decide +kernel
theorem dX12_standsWith_1 : decode cX12_standsWith 1 = .ok (.istore_n 3, 1) := by decide +kernel
theorem dX12_standsWith_2 : decode cX12_standsWith 2 = .ok (.iconst 0, 1) := by decide +kernel
theorem dX12_standsWith_3 : decode cX12_standsWith 3 = .ok (.istore 4, 2) := by decide +kernel
theorem dX12_standsWith_5 : decode cX12_standsWith 5 = .ok (.iload 4, 2) := by decide +kernel
theorem dX12_standsWith_7 : decode cX12_standsWith 7 = .ok (.aload_n 0, 1) := by decide +kernel
theorem dX12_standsWith_8 : decode cX12_standsWith 8 = .ok (.getfield 310, 3) := by decide +kernel
theorem dX12_standsWith_11 : decode cX12_standsWith 11 = .ok (.if_icmp .ge 37, 3) := by decide +kernel
theorem dX12_standsWith_14 : decode cX12_standsWith 14 = .ok (.iload_n 3, 1) := by decide +kernel
theorem dX12_standsWith_15 : decode cX12_standsWith 15 = .ok (.aload_n 0, 1) := by decide +kernel
theorem dX12_standsWith_16 : decode cX12_standsWith 16 = .ok (.getfield 77, 3) := by decide +kernel
theorem dX12_standsWith_19 : decode cX12_standsWith 19 = .ok (.iload 4, 2) := by decide +kernel
theorem dX12_standsWith_21 : decode cX12_standsWith 21 = .ok (.iaload, 1) := by decide +kernel
theorem dX12_standsWith_22 : decode cX12_standsWith 22 = .ok (.iadd, 1) := by decide +kernel
theorem dX12_standsWith_23 : decode cX12_standsWith 23 = .ok (.istore_n 3, 1) := by decide +kernel
theorem dX12_standsWith_24 : decode cX12_standsWith 24 = .ok (.iload_n 1, 1) := by decide +kernel
theorem dX12_standsWith_25 : decode cX12_standsWith 25 = .ok (.iload_n 3, 1) := by decide +kernel
theorem dX12_standsWith_26 : decode cX12_standsWith 26 = .ok (.if_icmp .ge 16, 3) := by decide +kernel
theorem dX12_standsWith_29 : decode cX12_standsWith 29 = .ok (.aload_n 0, 1) := by decide +kernel
theorem dX12_standsWith_30 : decode cX12_standsWith 30 = .ok (.getfield 80, 3) := by decide +kernel
theorem dX12_standsWith_33 : decode cX12_standsWith 33 = .ok (.bipush 8, 2) := by decide +kernel
theorem dX12_standsWith_35 : decode cX12_standsWith 35 = .ok (.iload 4, 2) := by decide +kernel
theorem dX12_standsWith_37 : decode cX12_standsWith 37 = .ok (.imul, 1) := by decide +kernel
theorem dX12_standsWith_38 : decode cX12_standsWith 38 = .ok (.iload_n 2, 1) := by decide +kernel
theorem dX12_standsWith_39 : decode cX12_standsWith 39 = .ok (.iadd, 1) := by decide +kernel
theorem dX12_standsWith_40 : decode cX12_standsWith 40 = .ok (.iaload, 1) := by decide +kernel
theorem dX12_standsWith_41 : decode cX12_standsWith 41 = .ok (.ireturn, 1) := by decide +kernel
theorem dX12_standsWith_42 : decode cX12_standsWith 42 = .ok (.iinc 4 1, 3) := by decide +kernel
theorem dX12_standsWith_45 : decode cX12_standsWith 45 = .ok (.goto (-40), 3) := by decide +kernel
theorem dX12_standsWith_48 : decode cX12_standsWith 48 = .ok (.iconst (-1), 1) := by decide +kernel
theorem dX12_standsWith_49 : decode cX12_standsWith 49 = .ok (.ireturn, 1) := by decide +kernel
theorem dX12_isSo_0 : decode cX12_isSo 0 = .ok (.iconst 0, 1) := by decide +kernel
theorem dX12_isSo_1 : decode cX12_isSo 1 = .ok (.istore_n 2, 1) := by decide +kernel
theorem dX12_isSo_2 : decode cX12_isSo 2 = .ok (.iload_n 2, 1) := by decide +kernel
theorem dX12_isSo_3 : decode cX12_isSo 3 = .ok (.aload_n 0, 1) := by decide +kernel
theorem dX12_isSo_4 : decode cX12_isSo 4 = .ok (.getfield 211, 3) := by decide +kernel
theorem dX12_isSo_7 : decode cX12_isSo 7 = .ok (.if_icmp .ge 65, 3) := by decide +kernel
theorem dX12_isSo_10 : decode cX12_isSo 10 = .ok (.aload_n 0, 1) := by decide +kernel
theorem dX12_isSo_11 : decode cX12_isSo 11 = .ok (.getfield 116, 3) := by decide +kernel
theorem dX12_isSo_14 : decode cX12_isSo 14 = .ok (.iload_n 2, 1) := by decide +kernel
theorem dX12_isSo_15 : decode cX12_isSo 15 = .ok (.iaload, 1) := by decide +kernel
theorem dX12_isSo_16 : decode cX12_isSo 16 = .ok (.iload_n 1, 1) := by decide +kernel
theorem dX12_isSo_17 : decode cX12_isSo 17 = .ok (.if_icmp .gt 49, 3) := by decide +kernel
theorem dX12_isSo_20 : decode cX12_isSo 20 = .ok (.aload_n 0, 1) := by decide +kernel
theorem dX12_isSo_21 : decode cX12_isSo 21 = .ok (.getfield 119, 3) := by decide +kernel
theorem dX12_isSo_24 : decode cX12_isSo 24 = .ok (.iload_n 2, 1) := by decide +kernel
theorem dX12_isSo_25 : decode cX12_isSo 25 = .ok (.iaload, 1) := by decide +kernel
theorem dX12_isSo_26 : decode cX12_isSo 26 = .ok (.ifCond .lt 13, 3) := by decide +kernel
theorem dX12_isSo_29 : decode cX12_isSo 29 = .ok (.aload_n 0, 1) := by decide +kernel
theorem dX12_isSo_30 : decode cX12_isSo 30 = .ok (.getfield 119, 3) := by decide +kernel
theorem dX12_isSo_33 : decode cX12_isSo 33 = .ok (.iload_n 2, 1) := by decide +kernel
theorem dX12_isSo_34 : decode cX12_isSo 34 = .ok (.iaload, 1) := by decide +kernel
theorem dX12_isSo_35 : decode cX12_isSo 35 = .ok (.iload_n 1, 1) := by decide +kernel
theorem dX12_isSo_36 : decode cX12_isSo 36 = .ok (.if_icmp .le 30, 3) := by decide +kernel
theorem dX12_isSo_39 : decode cX12_isSo 39 = .ok (.aload_n 0, 1) := by decide +kernel
theorem dX12_isSo_40 : decode cX12_isSo 40 = .ok (.aload_n 0, 1) := by decide +kernel
theorem dX12_isSo_41 : decode cX12_isSo 41 = .ok (.getfield 107, 3) := by decide +kernel
theorem dX12_isSo_44 : decode cX12_isSo 44 = .ok (.iload_n 2, 1) := by decide +kernel
theorem dX12_isSo_45 : decode cX12_isSo 45 = .ok (.iaload, 1) := by decide +kernel
theorem dX12_isSo_46 : decode cX12_isSo 46 = .ok (.aload_n 0, 1) := by decide +kernel
theorem dX12_isSo_47 : decode cX12_isSo 47 = .ok (.getfield 110, 3) := by decide +kernel
theorem dX12_isSo_50 : decode cX12_isSo 50 = .ok (.iload_n 2, 1) := by decide +kernel
theorem dX12_isSo_51 : decode cX12_isSo 51 = .ok (.iaload, 1) := by decide +kernel
theorem dX12_isSo_52 : decode cX12_isSo 52 = .ok (.invokevirtual 377, 3) := by decide +kernel
theorem dX12_isSo_55 : decode cX12_isSo 55 = .ok (.aload_n 0, 1) := by decide +kernel
theorem dX12_isSo_56 : decode cX12_isSo 56 = .ok (.getfield 113, 3) := by decide +kernel
theorem dX12_isSo_59 : decode cX12_isSo 59 = .ok (.iload_n 2, 1) := by decide +kernel
theorem dX12_isSo_60 : decode cX12_isSo 60 = .ok (.iaload, 1) := by decide +kernel
theorem dX12_isSo_61 : decode cX12_isSo 61 = .ok (.if_icmp .eq 5, 3) := by decide +kernel
theorem dX12_isSo_64 : decode cX12_isSo 64 = .ok (.iconst 0, 1) := by decide +kernel
theorem dX12_isSo_65 : decode cX12_isSo 65 = .ok (.ireturn, 1) := by decide +kernel
theorem dX12_isSo_66 : decode cX12_isSo 66 = .ok (.iinc 2 1, 3) := by decide +kernel
theorem dX12_isSo_69 : decode cX12_isSo 69 = .ok (.goto (-67), 3) := by decide +kernel
theorem dX12_isSo_72 : decode cX12_isSo 72 = .ok (.iconst 1, 1) := by decide +kernel
theorem dX12_isSo_73 : decode cX12_isSo 73 = .ok (.ireturn, 1) := by decide +kernel
theorem dX12_fits_0 : decode cX12_fits 0 = .ok (.aload_n 0, 1) := by decide +kernel
theorem dX12_fits_1 : decode cX12_fits 1 = .ok (.iload_n 1, 1) := by decide +kernel
theorem dX12_fits_2 : decode cX12_fits 2 = .ok (.invokevirtual 285, 3) := by decide +kernel
theorem dX12_fits_5 : decode cX12_fits 5 = .ok (.ifCond .eq 11, 3) := by decide +kernel
theorem dX12_fits_8 : decode cX12_fits 8 = .ok (.aload_n 0, 1) := by decide +kernel
theorem dX12_fits_9 : decode cX12_fits 9 = .ok (.iload_n 2, 1) := by decide +kernel
theorem dX12_fits_10 : decode cX12_fits 10 = .ok (.invokevirtual 288, 3) := by decide +kernel
theorem dX12_fits_13 : decode cX12_fits 13 = .ok (.ifCond .ne 7, 3) := by decide +kernel
theorem dX12_fits_16 : decode cX12_fits 16 = .ok (.ldc2_w 380, 3) := by decide +kernel
theorem dX12_fits_19 : decode cX12_fits 19 = .ok (.lreturn, 1) := by decide +kernel
theorem dX12_fits_20 : decode cX12_fits 20 = .ok (.lconst 0, 1) := by decide +kernel
theorem dX12_fits_21 : decode cX12_fits 21 = .ok (.lstore 4, 2) := by decide +kernel
theorem dX12_fits_23 : decode cX12_fits 23 = .ok (.iconst 0, 1) := by decide +kernel
theorem dX12_fits_24 : decode cX12_fits 24 = .ok (.istore 6, 2) := by decide +kernel
theorem dX12_fits_26 : decode cX12_fits 26 = .ok (.iload 6, 2) := by decide +kernel
theorem dX12_fits_28 : decode cX12_fits 28 = .ok (.bipush 40, 2) := by decide +kernel
theorem dX12_fits_30 : decode cX12_fits 30 = .ok (.if_icmp .gt 85, 3) := by decide +kernel
theorem dX12_fits_33 : decode cX12_fits 33 = .ok (.iconst 0, 1) := by decide +kernel
theorem dX12_fits_34 : decode cX12_fits 34 = .ok (.istore 7, 2) := by decide +kernel
theorem dX12_fits_36 : decode cX12_fits 36 = .ok (.iload 7, 2) := by decide +kernel
theorem dX12_fits_38 : decode cX12_fits 38 = .ok (.bipush 80, 2) := by decide +kernel
theorem dX12_fits_40 : decode cX12_fits 40 = .ok (.if_icmp .ge 31, 3) := by decide +kernel
theorem dX12_fits_43 : decode cX12_fits 43 = .ok (.aload_n 0, 1) := by decide +kernel
theorem dX12_fits_44 : decode cX12_fits 44 = .ok (.getfield 62, 3) := by decide +kernel
theorem dX12_fits_47 : decode cX12_fits 47 = .ok (.iload 7, 2) := by decide +kernel
theorem dX12_fits_49 : decode cX12_fits 49 = .ok (.aload_n 0, 1) := by decide +kernel
theorem dX12_fits_50 : decode cX12_fits 50 = .ok (.getfield 42, 3) := by decide +kernel
theorem dX12_fits_53 : decode cX12_fits 53 = .ok (.bipush 80, 2) := by decide +kernel
theorem dX12_fits_55 : decode cX12_fits 55 = .ok (.aload_n 0, 1) := by decide +kernel
theorem dX12_fits_56 : decode cX12_fits 56 = .ok (.getfield 205, 3) := by decide +kernel
theorem dX12_fits_59 : decode cX12_fits 59 = .ok (.imul, 1) := by decide +kernel
theorem dX12_fits_60 : decode cX12_fits 60 = .ok (.iload 7, 2) := by decide +kernel
theorem dX12_fits_62 : decode cX12_fits 62 = .ok (.iadd, 1) := by decide +kernel
theorem dX12_fits_63 : decode cX12_fits 63 = .ok (.iaload, 1) := by decide +kernel
theorem dX12_fits_64 : decode cX12_fits 64 = .ok (.iastore, 1) := by decide +kernel
theorem dX12_fits_65 : decode cX12_fits 65 = .ok (.iinc 7 1, 3) := by decide +kernel
theorem dX12_fits_68 : decode cX12_fits 68 = .ok (.goto (-32), 3) := by decide +kernel
theorem dX12_fits_71 : decode cX12_fits 71 = .ok (.aload_n 0, 1) := by decide +kernel
theorem dX12_fits_72 : decode cX12_fits 72 = .ok (.getfield 62, 3) := by decide +kernel
theorem dX12_fits_75 : decode cX12_fits 75 = .ok (.bipush 10, 2) := by decide +kernel
theorem dX12_fits_77 : decode cX12_fits 77 = .ok (.iload_n 1, 1) := by decide +kernel
theorem dX12_fits_78 : decode cX12_fits 78 = .ok (.imul, 1) := by decide +kernel
theorem dX12_fits_79 : decode cX12_fits 79 = .ok (.iload_n 2, 1) := by decide +kernel
theorem dX12_fits_80 : decode cX12_fits 80 = .ok (.iadd, 1) := by decide +kernel
theorem dX12_fits_81 : decode cX12_fits 81 = .ok (.iload 6, 2) := by decide +kernel
theorem dX12_fits_83 : decode cX12_fits 83 = .ok (.iastore, 1) := by decide +kernel
theorem dX12_fits_84 : decode cX12_fits 84 = .ok (.aload_n 0, 1) := by decide +kernel
theorem dX12_fits_85 : decode cX12_fits 85 = .ok (.invokevirtual 320, 3) := by decide +kernel
theorem dX12_fits_88 : decode cX12_fits 88 = .ok (.lload 4, 2) := by decide +kernel
theorem dX12_fits_90 : decode cX12_fits 90 = .ok (.aload_n 0, 1) := by decide +kernel
theorem dX12_fits_91 : decode cX12_fits 91 = .ok (.iload_n 3, 1) := by decide +kernel
theorem dX12_fits_92 : decode cX12_fits 92 = .ok (.invokevirtual 382, 3) := by decide +kernel
theorem dX12_fits_95 : decode cX12_fits 95 = .ok (.ifCond .eq 10, 3) := by decide +kernel
theorem dX12_fits_98 : decode cX12_fits 98 = .ok (.lconst 1, 1) := by decide +kernel
theorem dX12_fits_99 : decode cX12_fits 99 = .ok (.iload 6, 2) := by decide +kernel
theorem dX12_fits_101 : decode cX12_fits 101 = .ok (.lshl, 1) := by decide +kernel
theorem dX12_fits_102 : decode cX12_fits 102 = .ok (.goto 4, 3) := by decide +kernel
theorem dX12_fits_105 : decode cX12_fits 105 = .ok (.lconst 0, 1) := by decide +kernel
theorem dX12_fits_106 : decode cX12_fits 106 = .ok (.lor, 1) := by decide +kernel
theorem dX12_fits_107 : decode cX12_fits 107 = .ok (.lstore 4, 2) := by decide +kernel
theorem dX12_fits_109 : decode cX12_fits 109 = .ok (.iinc 6 1, 3) := by decide +kernel
theorem dX12_fits_112 : decode cX12_fits 112 = .ok (.goto (-86), 3) := by decide +kernel
theorem dX12_fits_115 : decode cX12_fits 115 = .ok (.lload 4, 2) := by decide +kernel
theorem dX12_fits_117 : decode cX12_fits 117 = .ok (.lreturn, 1) := by decide +kernel
theorem dX12_image_0 : decode cX12_image 0 = .ok (.iload_n 1, 1) := by decide +kernel
theorem dX12_image_1 : decode cX12_image 1 = .ok (.iconst 0, 1) := by decide +kernel
theorem dX12_image_2 : decode cX12_image 2 = .ok (.iconst 2, 1) := by decide +kernel
theorem dX12_image_3 : decode cX12_image 3 = .ok (.invokestatic 260, 3) := by decide +kernel
theorem dX12_image_6 : decode cX12_image 6 = .ok (.ifCond .ne 5, 3) := by decide +kernel
theorem dX12_image_9 : decode cX12_image 9 = .ok (.iconst (-1), 1) := by decide +kernel
theorem dX12_image_10 : decode cX12_image 10 = .ok (.ireturn, 1) := by decide +kernel
theorem dX12_image_11 : decode cX12_image 11 = .ok (.iconst 0, 1) := by decide +kernel
theorem dX12_image_12 : decode cX12_image 12 = .ok (.istore_n 2, 1) := by decide +kernel
theorem dX12_image_13 : decode cX12_image 13 = .ok (.iload_n 2, 1) := by decide +kernel
theorem dX12_image_14 : decode cX12_image 14 = .ok (.bipush 80, 2) := by decide +kernel
theorem dX12_image_16 : decode cX12_image 16 = .ok (.if_icmp .ge 26, 3) := by decide +kernel
theorem dX12_image_19 : decode cX12_image 19 = .ok (.aload_n 0, 1) := by decide +kernel
theorem dX12_image_20 : decode cX12_image 20 = .ok (.getfield 125, 3) := by decide +kernel
theorem dX12_image_23 : decode cX12_image 23 = .ok (.bipush 80, 2) := by decide +kernel
theorem dX12_image_25 : decode cX12_image 25 = .ok (.iload_n 1, 1) := by decide +kernel
theorem dX12_image_26 : decode cX12_image 26 = .ok (.imul, 1) := by decide +kernel
theorem dX12_image_27 : decode cX12_image 27 = .ok (.iload_n 2, 1) := by decide +kernel
theorem dX12_image_28 : decode cX12_image 28 = .ok (.iadd, 1) := by decide +kernel
theorem dX12_image_29 : decode cX12_image 29 = .ok (.aload_n 0, 1) := by decide +kernel
theorem dX12_image_30 : decode cX12_image 30 = .ok (.getfield 65, 3) := by decide +kernel
theorem dX12_image_33 : decode cX12_image 33 = .ok (.iload_n 2, 1) := by decide +kernel
theorem dX12_image_34 : decode cX12_image 34 = .ok (.iaload, 1) := by decide +kernel
theorem dX12_image_35 : decode cX12_image 35 = .ok (.iastore, 1) := by decide +kernel
theorem dX12_image_36 : decode cX12_image 36 = .ok (.iinc 2 1, 3) := by decide +kernel
theorem dX12_image_39 : decode cX12_image 39 = .ok (.goto (-26), 3) := by decide +kernel
theorem dX12_image_42 : decode cX12_image 42 = .ok (.aload_n 0, 1) := by decide +kernel
theorem dX12_image_43 : decode cX12_image 43 = .ok (.getfield 122, 3) := by decide +kernel
theorem dX12_image_46 : decode cX12_image 46 = .ok (.iload_n 1, 1) := by decide +kernel
theorem dX12_image_47 : decode cX12_image 47 = .ok (.aload_n 0, 1) := by decide +kernel
theorem dX12_image_48 : decode cX12_image 48 = .ok (.getfield 267, 3) := by decide +kernel
theorem dX12_image_51 : decode cX12_image 51 = .ok (.iastore, 1) := by decide +kernel
theorem dX12_image_52 : decode cX12_image 52 = .ok (.aload_n 0, 1) := by decide +kernel
theorem dX12_image_53 : decode cX12_image 53 = .ok (.getfield 267, 3) := by decide +kernel
theorem dX12_image_56 : decode cX12_image 56 = .ok (.ireturn, 1) := by decide +kernel
theorem dX12_back_0 : decode cX12_back 0 = .ok (.iload_n 1, 1) := by decide +kernel
theorem dX12_back_1 : decode cX12_back 1 = .ok (.iconst 0, 1) := by decide +kernel
theorem dX12_back_2 : decode cX12_back 2 = .ok (.iconst 2, 1) := by decide +kernel
theorem dX12_back_3 : decode cX12_back 3 = .ok (.invokestatic 260, 3) := by decide +kernel
theorem dX12_back_6 : decode cX12_back 6 = .ok (.ifCond .eq 12, 3) := by decide +kernel
theorem dX12_back_9 : decode cX12_back 9 = .ok (.aload_n 0, 1) := by decide +kernel
theorem dX12_back_10 : decode cX12_back 10 = .ok (.getfield 122, 3) := by decide +kernel
theorem dX12_back_13 : decode cX12_back 13 = .ok (.iload_n 1, 1) := by decide +kernel
theorem dX12_back_14 : decode cX12_back 14 = .ok (.iaload, 1) := by decide +kernel
theorem dX12_back_15 : decode cX12_back 15 = .ok (.ifCond .ge 5, 3) := by decide +kernel
theorem dX12_back_18 : decode cX12_back 18 = .ok (.iconst (-1), 1) := by decide +kernel
theorem dX12_back_19 : decode cX12_back 19 = .ok (.ireturn, 1) := by decide +kernel
theorem dX12_back_20 : decode cX12_back 20 = .ok (.iconst 0, 1) := by decide +kernel
theorem dX12_back_21 : decode cX12_back 21 = .ok (.istore_n 2, 1) := by decide +kernel
theorem dX12_back_22 : decode cX12_back 22 = .ok (.iload_n 2, 1) := by decide +kernel
theorem dX12_back_23 : decode cX12_back 23 = .ok (.bipush 80, 2) := by decide +kernel
theorem dX12_back_25 : decode cX12_back 25 = .ok (.if_icmp .ge 26, 3) := by decide +kernel
theorem dX12_back_28 : decode cX12_back 28 = .ok (.aload_n 0, 1) := by decide +kernel
theorem dX12_back_29 : decode cX12_back 29 = .ok (.getfield 65, 3) := by decide +kernel
theorem dX12_back_32 : decode cX12_back 32 = .ok (.iload_n 2, 1) := by decide +kernel
theorem dX12_back_33 : decode cX12_back 33 = .ok (.aload_n 0, 1) := by decide +kernel
theorem dX12_back_34 : decode cX12_back 34 = .ok (.getfield 125, 3) := by decide +kernel
theorem dX12_back_37 : decode cX12_back 37 = .ok (.bipush 80, 2) := by decide +kernel
theorem dX12_back_39 : decode cX12_back 39 = .ok (.iload_n 1, 1) := by decide +kernel
theorem dX12_back_40 : decode cX12_back 40 = .ok (.imul, 1) := by decide +kernel
theorem dX12_back_41 : decode cX12_back 41 = .ok (.iload_n 2, 1) := by decide +kernel
theorem dX12_back_42 : decode cX12_back 42 = .ok (.iadd, 1) := by decide +kernel
theorem dX12_back_43 : decode cX12_back 43 = .ok (.iaload, 1) := by decide +kernel
theorem dX12_back_44 : decode cX12_back 44 = .ok (.iastore, 1) := by decide +kernel
theorem dX12_back_45 : decode cX12_back 45 = .ok (.iinc 2 1, 3) := by decide +kernel
theorem dX12_back_48 : decode cX12_back 48 = .ok (.goto (-26), 3) := by decide +kernel
theorem dX12_back_51 : decode cX12_back 51 = .ok (.aload_n 0, 1) := by decide +kernel
theorem dX12_back_52 : decode cX12_back 52 = .ok (.aload_n 0, 1) := by decide +kernel
theorem dX12_back_53 : decode cX12_back 53 = .ok (.getfield 122, 3) := by decide +kernel
theorem dX12_back_56 : decode cX12_back 56 = .ok (.iload_n 1, 1) := by decide +kernel
theorem dX12_back_57 : decode cX12_back 57 = .ok (.iaload, 1) := by decide +kernel
theorem dX12_back_58 : decode cX12_back 58 = .ok (.putfield 267, 3) := by decide +kernel
theorem dX12_back_61 : decode cX12_back 61 = .ok (.aload_n 0, 1) := by decide +kernel
theorem dX12_back_62 : decode cX12_back 62 = .ok (.iconst 0, 1) := by decide +kernel
theorem dX12_back_63 : decode cX12_back 63 = .ok (.putfield 270, 3) := by decide +kernel
theorem dX12_back_66 : decode cX12_back 66 = .ok (.aload_n 0, 1) := by decide +kernel
theorem dX12_back_67 : decode cX12_back 67 = .ok (.iconst 0, 1) := by decide +kernel
theorem dX12_back_68 : decode cX12_back 68 = .ok (.putfield 273, 3) := by decide +kernel
theorem dX12_back_71 : decode cX12_back 71 = .ok (.aload_n 0, 1) := by decide +kernel
theorem dX12_back_72 : decode cX12_back 72 = .ok (.getfield 267, 3) := by decide +kernel
theorem dX12_back_75 : decode cX12_back 75 = .ok (.ireturn, 1) := by decide +kernel
theorem dX12_about_0 : decode cX12_about 0 = .ok (.iload_n 1, 1) := by decide +kernel
theorem dX12_about_1 : decode cX12_about 1 = .ok (.tableswitch 123 0 10 #[59, 64, 69, 74, 83, 88, 93, 98, 103, 108, 113], 59) := by decide +kernel
theorem dX12_about_60 : decode cX12_about 60 = .ok (.aload_n 0, 1) := by decide +kernel
theorem dX12_about_61 : decode cX12_about 61 = .ok (.invokevirtual 257, 3) := by decide +kernel
theorem dX12_about_64 : decode cX12_about 64 = .ok (.ireturn, 1) := by decide +kernel
theorem dX12_about_65 : decode cX12_about 65 = .ok (.aload_n 0, 1) := by decide +kernel
theorem dX12_about_66 : decode cX12_about 66 = .ok (.invokevirtual 264, 3) := by decide +kernel
theorem dX12_about_69 : decode cX12_about 69 = .ok (.ireturn, 1) := by decide +kernel
theorem dX12_about_70 : decode cX12_about 70 = .ok (.aload_n 0, 1) := by decide +kernel
theorem dX12_about_71 : decode cX12_about 71 = .ok (.getfield 267, 3) := by decide +kernel
theorem dX12_about_74 : decode cX12_about 74 = .ok (.ireturn, 1) := by decide +kernel
theorem dX12_about_75 : decode cX12_about 75 = .ok (.aload_n 0, 1) := by decide +kernel
theorem dX12_about_76 : decode cX12_about 76 = .ok (.invokevirtual 291, 3) := by decide +kernel
theorem dX12_about_79 : decode cX12_about 79 = .ok (.aload_n 0, 1) := by decide +kernel
theorem dX12_about_80 : decode cX12_about 80 = .ok (.invokevirtual 370, 3) := by decide +kernel
theorem dX12_about_83 : decode cX12_about 83 = .ok (.ireturn, 1) := by decide +kernel
theorem dX12_about_84 : decode cX12_about 84 = .ok (.aload_n 0, 1) := by decide +kernel
theorem dX12_about_85 : decode cX12_about 85 = .ok (.getfield 270, 3) := by decide +kernel
theorem dX12_about_88 : decode cX12_about 88 = .ok (.ireturn, 1) := by decide +kernel
theorem dX12_about_89 : decode cX12_about 89 = .ok (.aload_n 0, 1) := by decide +kernel
theorem dX12_about_90 : decode cX12_about 90 = .ok (.getfield 273, 3) := by decide +kernel
theorem dX12_about_93 : decode cX12_about 93 = .ok (.ireturn, 1) := by decide +kernel
theorem dX12_about_94 : decode cX12_about 94 = .ok (.aload_n 0, 1) := by decide +kernel
theorem dX12_about_95 : decode cX12_about 95 = .ok (.getfield 214, 3) := by decide +kernel
theorem dX12_about_98 : decode cX12_about 98 = .ok (.ireturn, 1) := by decide +kernel
theorem dX12_about_99 : decode cX12_about 99 = .ok (.aload_n 0, 1) := by decide +kernel
theorem dX12_about_100 : decode cX12_about 100 = .ok (.getfield 211, 3) := by decide +kernel
theorem dX12_about_103 : decode cX12_about 103 = .ok (.ireturn, 1) := by decide +kernel
theorem dX12_about_104 : decode cX12_about 104 = .ok (.aload_n 0, 1) := by decide +kernel
theorem dX12_about_105 : decode cX12_about 105 = .ok (.getfield 373, 3) := by decide +kernel
theorem dX12_about_108 : decode cX12_about 108 = .ok (.ireturn, 1) := by decide +kernel
theorem dX12_about_109 : decode cX12_about 109 = .ok (.aload_n 0, 1) := by decide +kernel
theorem dX12_about_110 : decode cX12_about 110 = .ok (.getfield 202, 3) := by decide +kernel
theorem dX12_about_113 : decode cX12_about 113 = .ok (.ireturn, 1) := by decide +kernel
theorem dX12_about_114 : decode cX12_about 114 = .ok (.aload_n 0, 1) := by decide +kernel
theorem dX12_about_115 : decode cX12_about 115 = .ok (.getfield 33, 3) := by decide +kernel
theorem dX12_about_118 : decode cX12_about 118 = .ok (.aload_n 0, 1) := by decide +kernel
theorem dX12_about_119 : decode cX12_about 119 = .ok (.getfield 205, 3) := by decide +kernel
theorem dX12_about_122 : decode cX12_about 122 = .ok (.iaload, 1) := by decide +kernel
theorem dX12_about_123 : decode cX12_about 123 = .ok (.ireturn, 1) := by decide +kernel
theorem dX12_about_124 : decode cX12_about 124 = .ok (.iconst (-1), 1) := by decide +kernel
theorem dX12_about_125 : decode cX12_about 125 = .ok (.ireturn, 1) := by decide +kernel
theorem dX12_feed_0 : decode cX12_feed 0 = .ok (.aload_n 0, 1) := by decide +kernel
theorem dX12_feed_1 : decode cX12_feed 1 = .ok (.getfield 202, 3) := by decide +kernel
theorem dX12_feed_4 : decode cX12_feed 4 = .ok (.bipush 20, 2) := by decide +kernel
theorem dX12_feed_6 : decode cX12_feed 6 = .ok (.iadd, 1) := by decide +kernel
theorem dX12_feed_7 : decode cX12_feed 7 = .ok (.sipush 1700, 3) := by decide +kernel
theorem dX12_feed_10 : decode cX12_feed 10 = .ok (.if_icmp .le 5, 3) := by decide +kernel
theorem dX12_feed_13 : decode cX12_feed 13 = .ok (.iconst (-1), 1) := by decide +kernel
theorem dX12_feed_14 : decode cX12_feed 14 = .ok (.ireturn, 1) := by decide +kernel
theorem dX12_feed_15 : decode cX12_feed 15 = .ok (.iconst 0, 1) := by decide +kernel
theorem dX12_feed_16 : decode cX12_feed 16 = .ok (.istore 6, 2) := by decide +kernel
theorem dX12_feed_18 : decode cX12_feed 18 = .ok (.iload 6, 2) := by decide +kernel
theorem dX12_feed_20 : decode cX12_feed 20 = .ok (.bipush 20, 2) := by decide +kernel
theorem dX12_feed_22 : decode cX12_feed 22 = .ok (.if_icmp .ge 83, 3) := by decide +kernel
theorem dX12_feed_25 : decode cX12_feed 25 = .ok (.iload 6, 2) := by decide +kernel
theorem dX12_feed_27 : decode cX12_feed 27 = .ok (.iconst 4, 1) := by decide +kernel
theorem dX12_feed_28 : decode cX12_feed 28 = .ok (.if_icmp .ge 7, 3) := by decide +kernel
theorem dX12_feed_31 : decode cX12_feed 31 = .ok (.iload_n 1, 1) := by decide +kernel
theorem dX12_feed_32 : decode cX12_feed 32 = .ok (.goto 39, 3) := by decide +kernel
theorem dX12_feed_35 : decode cX12_feed 35 = .ok (.iload 6, 2) := by decide +kernel
theorem dX12_feed_37 : decode cX12_feed 37 = .ok (.bipush 8, 2) := by decide +kernel
theorem dX12_feed_39 : decode cX12_feed 39 = .ok (.if_icmp .ge 7, 3) := by decide +kernel
theorem dX12_feed_42 : decode cX12_feed 42 = .ok (.iload_n 2, 1) := by decide +kernel
theorem dX12_feed_43 : decode cX12_feed 43 = .ok (.goto 28, 3) := by decide +kernel
theorem dX12_feed_46 : decode cX12_feed 46 = .ok (.iload 6, 2) := by decide +kernel
theorem dX12_feed_48 : decode cX12_feed 48 = .ok (.bipush 12, 2) := by decide +kernel
theorem dX12_feed_50 : decode cX12_feed 50 = .ok (.if_icmp .ge 7, 3) := by decide +kernel
theorem dX12_feed_53 : decode cX12_feed 53 = .ok (.iload_n 3, 1) := by decide +kernel
theorem dX12_feed_54 : decode cX12_feed 54 = .ok (.goto 17, 3) := by decide +kernel
theorem dX12_feed_57 : decode cX12_feed 57 = .ok (.iload 6, 2) := by decide +kernel
theorem dX12_feed_59 : decode cX12_feed 59 = .ok (.bipush 16, 2) := by decide +kernel
theorem dX12_feed_61 : decode cX12_feed 61 = .ok (.if_icmp .ge 8, 3) := by decide +kernel
theorem dX12_feed_64 : decode cX12_feed 64 = .ok (.iload 4, 2) := by decide +kernel
theorem dX12_feed_66 : decode cX12_feed 66 = .ok (.goto 5, 3) := by decide +kernel
theorem dX12_feed_69 : decode cX12_feed 69 = .ok (.iload 5, 2) := by decide +kernel
theorem dX12_feed_71 : decode cX12_feed 71 = .ok (.istore 7, 2) := by decide +kernel
theorem dX12_feed_73 : decode cX12_feed 73 = .ok (.aload_n 0, 1) := by decide +kernel
theorem dX12_feed_74 : decode cX12_feed 74 = .ok (.getfield 7, 3) := by decide +kernel
theorem dX12_feed_77 : decode cX12_feed 77 = .ok (.aload_n 0, 1) := by decide +kernel
theorem dX12_feed_78 : decode cX12_feed 78 = .ok (.getfield 202, 3) := by decide +kernel
theorem dX12_feed_81 : decode cX12_feed 81 = .ok (.iload 6, 2) := by decide +kernel
theorem dX12_feed_83 : decode cX12_feed 83 = .ok (.iadd, 1) := by decide +kernel
theorem dX12_feed_84 : decode cX12_feed 84 = .ok (.iload 7, 2) := by decide +kernel
theorem dX12_feed_86 : decode cX12_feed 86 = .ok (.bipush 24, 2) := by decide +kernel
theorem dX12_feed_88 : decode cX12_feed 88 = .ok (.bipush 8, 2) := by decide +kernel
theorem dX12_feed_90 : decode cX12_feed 90 = .ok (.iload 6, 2) := by decide +kernel
theorem dX12_feed_92 : decode cX12_feed 92 = .ok (.iconst 3, 1) := by decide +kernel
theorem dX12_feed_93 : decode cX12_feed 93 = .ok (.iand, 1) := by decide +kernel
theorem dX12_feed_94 : decode cX12_feed 94 = .ok (.imul, 1) := by decide +kernel
theorem dX12_feed_95 : decode cX12_feed 95 = .ok (.isub, 1) := by decide +kernel
theorem dX12_feed_96 : decode cX12_feed 96 = .ok (.ishr, 1) := by decide +kernel
theorem dX12_feed_97 : decode cX12_feed 97 = .ok (.i2b, 1) := by decide +kernel
theorem dX12_feed_98 : decode cX12_feed 98 = .ok (.bastore, 1) := by decide +kernel
theorem dX12_feed_99 : decode cX12_feed 99 = .ok (.iinc 6 1, 3) := by decide +kernel
theorem dX12_feed_102 : decode cX12_feed 102 = .ok (.goto (-84), 3) := by decide +kernel
theorem dX12_feed_105 : decode cX12_feed 105 = .ok (.aload_n 0, 1) := by decide +kernel
theorem dX12_feed_106 : decode cX12_feed 106 = .ok (.dup, 1) := by decide +kernel
theorem dX12_feed_107 : decode cX12_feed 107 = .ok (.getfield 202, 3) := by decide +kernel
theorem dX12_feed_110 : decode cX12_feed 110 = .ok (.bipush 20, 2) := by decide +kernel
theorem dX12_feed_112 : decode cX12_feed 112 = .ok (.iadd, 1) := by decide +kernel
theorem dX12_feed_113 : decode cX12_feed 113 = .ok (.putfield 202, 3) := by decide +kernel
theorem dX12_feed_116 : decode cX12_feed 116 = .ok (.aload_n 0, 1) := by decide +kernel
theorem dX12_feed_117 : decode cX12_feed 117 = .ok (.getfield 202, 3) := by decide +kernel
theorem dX12_feed_120 : decode cX12_feed 120 = .ok (.ireturn, 1) := by decide +kernel
theorem dX12_end_0 : decode cX12_end 0 = .ok (.iload_n 1, 1) := by decide +kernel
theorem dX12_end_1 : decode cX12_end 1 = .ok (.ifCond .lt 11, 3) := by decide +kernel
theorem dX12_end_4 : decode cX12_end 4 = .ok (.iload_n 1, 1) := by decide +kernel
theorem dX12_end_5 : decode cX12_end 5 = .ok (.aload_n 0, 1) := by decide +kernel
theorem dX12_end_6 : decode cX12_end 6 = .ok (.getfield 202, 3) := by decide +kernel
theorem dX12_end_9 : decode cX12_end 9 = .ok (.if_icmp .le 5, 3) := by decide +kernel
theorem dX12_end_12 : decode cX12_end 12 = .ok (.iconst (-1), 1) := by decide +kernel
theorem dX12_end_13 : decode cX12_end 13 = .ok (.ireturn, 1) := by decide +kernel
theorem dX12_end_14 : decode cX12_end 14 = .ok (.aload_n 0, 1) := by decide +kernel
theorem dX12_end_15 : decode cX12_end 15 = .ok (.iload_n 1, 1) := by decide +kernel
theorem dX12_end_16 : decode cX12_end 16 = .ok (.putfield 202, 3) := by decide +kernel
theorem dX12_end_19 : decode cX12_end 19 = .ok (.iload_n 1, 1) := by decide +kernel
theorem dX12_end_20 : decode cX12_end 20 = .ok (.ireturn, 1) := by decide +kernel
theorem dJ6_bitCount_0f7a4_0 : decode cJ6_bitCount_0f7a4 0 = .ok (.iload_n 0, 1) := by decide +kernel
theorem dJ6_bitCount_0f7a4_1 : decode cJ6_bitCount_0f7a4 1 = .ok (.iload_n 0, 1) := by decide +kernel
theorem dJ6_bitCount_0f7a4_2 : decode cJ6_bitCount_0f7a4 2 = .ok (.iconst 1, 1) := by decide +kernel
theorem dJ6_bitCount_0f7a4_3 : decode cJ6_bitCount_0f7a4 3 = .ok (.iushr, 1) := by decide +kernel
theorem dJ6_bitCount_0f7a4_4 : decode cJ6_bitCount_0f7a4 4 = .ok (.ldc_w 265, 3) := by decide +kernel
theorem dJ6_bitCount_0f7a4_7 : decode cJ6_bitCount_0f7a4 7 = .ok (.iand, 1) := by decide +kernel
theorem dJ6_bitCount_0f7a4_8 : decode cJ6_bitCount_0f7a4 8 = .ok (.isub, 1) := by decide +kernel
theorem dJ6_bitCount_0f7a4_9 : decode cJ6_bitCount_0f7a4 9 = .ok (.istore_n 0, 1) := by decide +kernel
theorem dJ6_bitCount_0f7a4_10 : decode cJ6_bitCount_0f7a4 10 = .ok (.iload_n 0, 1) := by decide +kernel
theorem dJ6_bitCount_0f7a4_11 : decode cJ6_bitCount_0f7a4 11 = .ok (.ldc_w 266, 3) := by decide +kernel
theorem dJ6_bitCount_0f7a4_14 : decode cJ6_bitCount_0f7a4 14 = .ok (.iand, 1) := by decide +kernel
theorem dJ6_bitCount_0f7a4_15 : decode cJ6_bitCount_0f7a4 15 = .ok (.iload_n 0, 1) := by decide +kernel
theorem dJ6_bitCount_0f7a4_16 : decode cJ6_bitCount_0f7a4 16 = .ok (.iconst 2, 1) := by decide +kernel
theorem dJ6_bitCount_0f7a4_17 : decode cJ6_bitCount_0f7a4 17 = .ok (.iushr, 1) := by decide +kernel
theorem dJ6_bitCount_0f7a4_18 : decode cJ6_bitCount_0f7a4 18 = .ok (.ldc_w 266, 3) := by decide +kernel
theorem dJ6_bitCount_0f7a4_21 : decode cJ6_bitCount_0f7a4 21 = .ok (.iand, 1) := by decide +kernel
theorem dJ6_bitCount_0f7a4_22 : decode cJ6_bitCount_0f7a4 22 = .ok (.iadd, 1) := by decide +kernel
theorem dJ6_bitCount_0f7a4_23 : decode cJ6_bitCount_0f7a4 23 = .ok (.istore_n 0, 1) := by decide +kernel
theorem dJ6_bitCount_0f7a4_24 : decode cJ6_bitCount_0f7a4 24 = .ok (.iload_n 0, 1) := by decide +kernel
theorem dJ6_bitCount_0f7a4_25 : decode cJ6_bitCount_0f7a4 25 = .ok (.iload_n 0, 1) := by decide +kernel
theorem dJ6_bitCount_0f7a4_26 : decode cJ6_bitCount_0f7a4 26 = .ok (.iconst 4, 1) := by decide +kernel
theorem dJ6_bitCount_0f7a4_27 : decode cJ6_bitCount_0f7a4 27 = .ok (.iushr, 1) := by decide +kernel
theorem dJ6_bitCount_0f7a4_28 : decode cJ6_bitCount_0f7a4 28 = .ok (.iadd, 1) := by decide +kernel
theorem dJ6_bitCount_0f7a4_29 : decode cJ6_bitCount_0f7a4 29 = .ok (.ldc_w 267, 3) := by decide +kernel
theorem dJ6_bitCount_0f7a4_32 : decode cJ6_bitCount_0f7a4 32 = .ok (.iand, 1) := by decide +kernel
theorem dJ6_bitCount_0f7a4_33 : decode cJ6_bitCount_0f7a4 33 = .ok (.istore_n 0, 1) := by decide +kernel
theorem dJ6_bitCount_0f7a4_34 : decode cJ6_bitCount_0f7a4 34 = .ok (.iload_n 0, 1) := by decide +kernel
theorem dJ6_bitCount_0f7a4_35 : decode cJ6_bitCount_0f7a4 35 = .ok (.iload_n 0, 1) := by decide +kernel
theorem dJ6_bitCount_0f7a4_36 : decode cJ6_bitCount_0f7a4 36 = .ok (.bipush 8, 2) := by decide +kernel
theorem dJ6_bitCount_0f7a4_38 : decode cJ6_bitCount_0f7a4 38 = .ok (.iushr, 1) := by decide +kernel
theorem dJ6_bitCount_0f7a4_39 : decode cJ6_bitCount_0f7a4 39 = .ok (.iadd, 1) := by decide +kernel
theorem dJ6_bitCount_0f7a4_40 : decode cJ6_bitCount_0f7a4 40 = .ok (.istore_n 0, 1) := by decide +kernel
theorem dJ6_bitCount_0f7a4_41 : decode cJ6_bitCount_0f7a4 41 = .ok (.iload_n 0, 1) := by decide +kernel
theorem dJ6_bitCount_0f7a4_42 : decode cJ6_bitCount_0f7a4 42 = .ok (.iload_n 0, 1) := by decide +kernel
theorem dJ6_bitCount_0f7a4_43 : decode cJ6_bitCount_0f7a4 43 = .ok (.bipush 16, 2) := by decide +kernel
theorem dJ6_bitCount_0f7a4_45 : decode cJ6_bitCount_0f7a4 45 = .ok (.iushr, 1) := by decide +kernel
theorem dJ6_bitCount_0f7a4_46 : decode cJ6_bitCount_0f7a4 46 = .ok (.iadd, 1) := by decide +kernel
theorem dJ6_bitCount_0f7a4_47 : decode cJ6_bitCount_0f7a4 47 = .ok (.istore_n 0, 1) := by decide +kernel
theorem dJ6_bitCount_0f7a4_48 : decode cJ6_bitCount_0f7a4 48 = .ok (.iload_n 0, 1) := by decide +kernel
theorem dJ6_bitCount_0f7a4_49 : decode cJ6_bitCount_0f7a4 49 = .ok (.bipush 63, 2) := by decide +kernel
theorem dJ6_bitCount_0f7a4_51 : decode cJ6_bitCount_0f7a4 51 = .ok (.iand, 1) := by decide +kernel
theorem dJ6_bitCount_0f7a4_52 : decode cJ6_bitCount_0f7a4 52 = .ok (.ireturn, 1) := by decide +kernel
theorem dJ9_max_7cf53_0 : decode cJ9_max_7cf53 0 = .ok (.iload_n 0, 1) := by decide +kernel
theorem dJ9_max_7cf53_1 : decode cJ9_max_7cf53 1 = .ok (.iload_n 1, 1) := by decide +kernel
theorem dJ9_max_7cf53_2 : decode cJ9_max_7cf53 2 = .ok (.if_icmp .lt 7, 3) := by decide +kernel
theorem dJ9_max_7cf53_5 : decode cJ9_max_7cf53 5 = .ok (.iload_n 0, 1) := by decide +kernel
theorem dJ9_max_7cf53_6 : decode cJ9_max_7cf53 6 = .ok (.goto 4, 3) := by decide +kernel
theorem dJ9_max_7cf53_9 : decode cJ9_max_7cf53 9 = .ok (.iload_n 1, 1) := by decide +kernel
theorem dJ9_max_7cf53_10 : decode cJ9_max_7cf53 10 = .ok (.ireturn, 1) := by decide +kernel
theorem dJ9_min_7cf53_0 : decode cJ9_min_7cf53 0 = .ok (.iload_n 0, 1) := by decide +kernel
theorem dJ9_min_7cf53_1 : decode cJ9_min_7cf53 1 = .ok (.iload_n 1, 1) := by decide +kernel
theorem dJ9_min_7cf53_2 : decode cJ9_min_7cf53 2 = .ok (.if_icmp .gt 7, 3) := by decide +kernel
theorem dJ9_min_7cf53_5 : decode cJ9_min_7cf53 5 = .ok (.iload_n 0, 1) := by decide +kernel
theorem dJ9_min_7cf53_6 : decode cJ9_min_7cf53 6 = .ok (.goto 4, 3) := by decide +kernel
theorem dJ9_min_7cf53_9 : decode cJ9_min_7cf53 9 = .ok (.iload_n 1, 1) := by decide +kernel
theorem dJ9_min_7cf53_10 : decode cJ9_min_7cf53 10 = .ok (.ireturn, 1) := by decide +kernel
theorem dJ0_length_8abf5_0 : decode cJ0_length_8abf5 0 = .ok (.aload_n 0, 1) := by decide +kernel
theorem dJ0_length_8abf5_1 : decode cJ0_length_8abf5 1 = .ok (.getfield 9, 3) := by decide +kernel
theorem dJ0_length_8abf5_4 : decode cJ0_length_8abf5 4 = .ok (.arraylength, 1) := by decide +kernel
theorem dJ0_length_8abf5_5 : decode cJ0_length_8abf5 5 = .ok (.aload_n 0, 1) := by decide +kernel
theorem dJ0_length_8abf5_6 : decode cJ0_length_8abf5 6 = .ok (.invokevirtual 335, 3) := by decide +kernel
theorem dJ0_length_8abf5_9 : decode cJ0_length_8abf5 9 = .ok (.ishr, 1) := by decide +kernel
theorem dJ0_length_8abf5_10 : decode cJ0_length_8abf5 10 = .ok (.ireturn, 1) := by decide +kernel
theorem dJ0_charAt_5068e_0 : decode cJ0_charAt_5068e 0 = .ok (.aload_n 0, 1) := by decide +kernel
theorem dJ0_charAt_5068e_1 : decode cJ0_charAt_5068e 1 = .ok (.invokevirtual 492, 3) := by decide +kernel
theorem dJ0_charAt_5068e_4 : decode cJ0_charAt_5068e 4 = .ok (.ifCond .eq 12, 3) := by decide +kernel
theorem dJ0_charAt_5068e_7 : decode cJ0_charAt_5068e 7 = .ok (.aload_n 0, 1) := by decide +kernel
theorem dJ0_charAt_5068e_8 : decode cJ0_charAt_5068e 8 = .ok (.getfield 9, 3) := by decide +kernel
theorem dJ0_charAt_5068e_11 : decode cJ0_charAt_5068e 11 = .ok (.iload_n 1, 1) := by decide +kernel
theorem dJ0_charAt_5068e_12 : decode cJ0_charAt_5068e 12 = .ok (.invokestatic 495, 3) := by decide +kernel
theorem dJ0_charAt_5068e_15 : decode cJ0_charAt_5068e 15 = .ok (.ireturn, 1) := by decide +kernel
theorem dJ0_charAt_5068e_16 : decode cJ0_charAt_5068e 16 = .ok (.aload_n 0, 1) := by decide +kernel
theorem dJ0_charAt_5068e_17 : decode cJ0_charAt_5068e 17 = .ok (.getfield 9, 3) := by decide +kernel
theorem dJ0_charAt_5068e_20 : decode cJ0_charAt_5068e 20 = .ok (.iload_n 1, 1) := by decide +kernel
theorem dJ0_charAt_5068e_21 : decode cJ0_charAt_5068e 21 = .ok (.invokestatic 498, 3) := by decide +kernel
theorem dJ0_charAt_5068e_24 : decode cJ0_charAt_5068e 24 = .ok (.ireturn, 1) := by decide +kernel
theorem dJ0_coder_7d493_0 : decode cJ0_coder_7d493 0 = .ok (.getstatic 38, 3) := by decide +kernel
theorem dJ0_coder_7d493_3 : decode cJ0_coder_7d493 3 = .ok (.ifCond .eq 10, 3) := by decide +kernel
theorem dJ0_coder_7d493_6 : decode cJ0_coder_7d493 6 = .ok (.aload_n 0, 1) := by decide +kernel
theorem dJ0_coder_7d493_7 : decode cJ0_coder_7d493 7 = .ok (.getfield 15, 3) := by decide +kernel
theorem dJ0_coder_7d493_10 : decode cJ0_coder_7d493 10 = .ok (.goto 4, 3) := by decide +kernel
theorem dJ0_coder_7d493_13 : decode cJ0_coder_7d493 13 = .ok (.iconst 1, 1) := by decide +kernel
theorem dJ0_coder_7d493_14 : decode cJ0_coder_7d493 14 = .ok (.ireturn, 1) := by decide +kernel
theorem dJ0_isLatin1_aae02_0 : decode cJ0_isLatin1_aae02 0 = .ok (.getstatic 38, 3) := by decide +kernel
theorem dJ0_isLatin1_aae02_3 : decode cJ0_isLatin1_aae02 3 = .ok (.ifCond .eq 14, 3) := by decide +kernel
theorem dJ0_isLatin1_aae02_6 : decode cJ0_isLatin1_aae02 6 = .ok (.aload_n 0, 1) := by decide +kernel
theorem dJ0_isLatin1_aae02_7 : decode cJ0_isLatin1_aae02 7 = .ok (.getfield 15, 3) := by decide +kernel
theorem dJ0_isLatin1_aae02_10 : decode cJ0_isLatin1_aae02 10 = .ok (.ifCond .ne 7, 3) := by decide +kernel
theorem dJ0_isLatin1_aae02_13 : decode cJ0_isLatin1_aae02 13 = .ok (.iconst 1, 1) := by decide +kernel
theorem dJ0_isLatin1_aae02_14 : decode cJ0_isLatin1_aae02 14 = .ok (.goto 4, 3) := by decide +kernel
theorem dJ0_isLatin1_aae02_17 : decode cJ0_isLatin1_aae02 17 = .ok (.iconst 0, 1) := by decide +kernel
theorem dJ0_isLatin1_aae02_18 : decode cJ0_isLatin1_aae02 18 = .ok (.ireturn, 1) := by decide +kernel
theorem dJ0_checkIndex_df160_0 : decode cJ0_checkIndex_df160 0 = .ok (.iload_n 0, 1) := by decide +kernel
theorem dJ0_checkIndex_df160_1 : decode cJ0_checkIndex_df160 1 = .ok (.iload_n 1, 1) := by decide +kernel
theorem dJ0_checkIndex_df160_2 : decode cJ0_checkIndex_df160 2 = .ok (.getstatic 1053, 3) := by decide +kernel
theorem dJ0_checkIndex_df160_5 : decode cJ0_checkIndex_df160 5 = .ok (.invokestatic 1059, 3) := by decide +kernel
theorem dJ0_checkIndex_df160_8 : decode cJ0_checkIndex_df160 8 = .ok (.pop, 1) := by decide +kernel
theorem dJ0_checkIndex_df160_9 : decode cJ0_checkIndex_df160 9 = .ok (.return_, 1) := by decide +kernel
theorem dJ1_charAt_3b067_0 : decode cJ1_charAt_3b067 0 = .ok (.iload_n 1, 1) := by decide +kernel
theorem dJ1_charAt_3b067_1 : decode cJ1_charAt_3b067 1 = .ok (.aload_n 0, 1) := by decide +kernel
theorem dJ1_charAt_3b067_2 : decode cJ1_charAt_3b067 2 = .ok (.arraylength, 1) := by decide +kernel
theorem dJ1_charAt_3b067_3 : decode cJ1_charAt_3b067 3 = .ok (.invokestatic 9, 3) := by decide +kernel
theorem dJ1_charAt_3b067_6 : decode cJ1_charAt_3b067 6 = .ok (.aload_n 0, 1) := by decide +kernel
theorem dJ1_charAt_3b067_7 : decode cJ1_charAt_3b067 7 = .ok (.iload_n 1, 1) := by decide +kernel
theorem dJ1_charAt_3b067_8 : decode cJ1_charAt_3b067 8 = .ok (.baload, 1) := by decide +kernel
theorem dJ1_charAt_3b067_9 : decode cJ1_charAt_3b067 9 = .ok (.sipush 255, 3) := by decide +kernel
theorem dJ1_charAt_3b067_12 : decode cJ1_charAt_3b067 12 = .ok (.iand, 1) := by decide +kernel
theorem dJ1_charAt_3b067_13 : decode cJ1_charAt_3b067 13 = .ok (.i2c, 1) := by decide +kernel
theorem dJ1_charAt_3b067_14 : decode cJ1_charAt_3b067 14 = .ok (.ireturn, 1) := by decide +kernel
theorem dJ2_getChar_3b067_0 : decode cJ2_getChar_3b067 0 = .ok (.getstatic 44, 3) := by decide +kernel
theorem dJ2_getChar_3b067_3 : decode cJ2_getChar_3b067 3 = .ok (.ifCond .ne 25, 3) := by decide +kernel
theorem dJ2_getChar_3b067_6 : decode cJ2_getChar_3b067 6 = .ok (.iload_n 1, 1) := by decide +kernel
theorem dJ2_getChar_3b067_7 : decode cJ2_getChar_3b067 7 = .ok (.ifCond .lt 11, 3) := by decide +kernel
theorem dJ2_getChar_3b067_10 : decode cJ2_getChar_3b067 10 = .ok (.iload_n 1, 1) := by decide +kernel
theorem dJ2_getChar_3b067_11 : decode cJ2_getChar_3b067 11 = .ok (.aload_n 0, 1) := by decide +kernel
theorem dJ2_getChar_3b067_12 : decode cJ2_getChar_3b067 12 = .ok (.invokestatic 48, 3) := by decide +kernel
theorem dJ2_getChar_3b067_15 : decode cJ2_getChar_3b067 15 = .ok (.if_icmp .lt 13, 3) := by decide +kernel
theorem dJ2_getChar_3b067_18 : decode cJ2_getChar_3b067 18 = .ok (.new 52, 3) := by decide +kernel
theorem dJ2_getChar_3b067_21 : decode cJ2_getChar_3b067 21 = .ok (.dup, 1) := by decide +kernel
theorem dJ2_getChar_3b067_22 : decode cJ2_getChar_3b067 22 = .ok (.ldc 54, 2) := by decide +kernel
theorem dJ2_getChar_3b067_24 : decode cJ2_getChar_3b067 24 = .ok (.invokespecial 56, 3) := by decide +kernel
theorem dJ2_getChar_3b067_27 : decode cJ2_getChar_3b067 27 = .ok (.athrow, 1) := by decide +kernel
theorem dJ2_getChar_3b067_28 : decode cJ2_getChar_3b067 28 = .ok (.iload_n 1, 1) := by decide +kernel
theorem dJ2_getChar_3b067_29 : decode cJ2_getChar_3b067 29 = .ok (.iconst 1, 1) := by decide +kernel
theorem dJ2_getChar_3b067_30 : decode cJ2_getChar_3b067 30 = .ok (.ishl, 1) := by decide +kernel
theorem dJ2_getChar_3b067_31 : decode cJ2_getChar_3b067 31 = .ok (.istore_n 1, 1) := by decide +kernel
theorem dJ2_getChar_3b067_32 : decode cJ2_getChar_3b067 32 = .ok (.aload_n 0, 1) := by decide +kernel
theorem dJ2_getChar_3b067_33 : decode cJ2_getChar_3b067 33 = .ok (.iload_n 1, 1) := by decide +kernel
theorem dJ2_getChar_3b067_34 : decode cJ2_getChar_3b067 34 = .ok (.iinc 1 1, 3) := by decide +kernel
theorem dJ2_getChar_3b067_37 : decode cJ2_getChar_3b067 37 = .ok (.baload, 1) := by decide +kernel
theorem dJ2_getChar_3b067_38 : decode cJ2_getChar_3b067 38 = .ok (.sipush 255, 3) := by decide +kernel
theorem dJ2_getChar_3b067_41 : decode cJ2_getChar_3b067 41 = .ok (.iand, 1) := by decide +kernel
theorem dJ2_getChar_3b067_42 : decode cJ2_getChar_3b067 42 = .ok (.getstatic 59, 3) := by decide +kernel
theorem dJ2_getChar_3b067_45 : decode cJ2_getChar_3b067 45 = .ok (.ishl, 1) := by decide +kernel
theorem dJ2_getChar_3b067_46 : decode cJ2_getChar_3b067 46 = .ok (.aload_n 0, 1) := by decide +kernel
theorem dJ2_getChar_3b067_47 : decode cJ2_getChar_3b067 47 = .ok (.iload_n 1, 1) := by decide +kernel
theorem dJ2_getChar_3b067_48 : decode cJ2_getChar_3b067 48 = .ok (.baload, 1) := by decide +kernel
theorem dJ2_getChar_3b067_49 : decode cJ2_getChar_3b067 49 = .ok (.sipush 255, 3) := by decide +kernel
theorem dJ2_getChar_3b067_52 : decode cJ2_getChar_3b067 52 = .ok (.iand, 1) := by decide +kernel
theorem dJ2_getChar_3b067_53 : decode cJ2_getChar_3b067 53 = .ok (.getstatic 63, 3) := by decide +kernel
theorem dJ2_getChar_3b067_56 : decode cJ2_getChar_3b067 56 = .ok (.ishl, 1) := by decide +kernel
theorem dJ2_getChar_3b067_57 : decode cJ2_getChar_3b067 57 = .ok (.ior, 1) := by decide +kernel
theorem dJ2_getChar_3b067_58 : decode cJ2_getChar_3b067 58 = .ok (.i2c, 1) := by decide +kernel
theorem dJ2_getChar_3b067_59 : decode cJ2_getChar_3b067 59 = .ok (.ireturn, 1) := by decide +kernel
theorem dJ2_length_9d52b_0 : decode cJ2_length_9d52b 0 = .ok (.aload_n 0, 1) := by decide +kernel
theorem dJ2_length_9d52b_1 : decode cJ2_length_9d52b 1 = .ok (.arraylength, 1) := by decide +kernel
theorem dJ2_length_9d52b_2 : decode cJ2_length_9d52b 2 = .ok (.iconst 1, 1) := by decide +kernel
theorem dJ2_length_9d52b_3 : decode cJ2_length_9d52b 3 = .ok (.ishr, 1) := by decide +kernel
theorem dJ2_length_9d52b_4 : decode cJ2_length_9d52b 4 = .ok (.ireturn, 1) := by decide +kernel
theorem dJ2_charAt_3b067_0 : decode cJ2_charAt_3b067 0 = .ok (.iload_n 1, 1) := by decide +kernel
theorem dJ2_charAt_3b067_1 : decode cJ2_charAt_3b067 1 = .ok (.aload_n 0, 1) := by decide +kernel
theorem dJ2_charAt_3b067_2 : decode cJ2_charAt_3b067 2 = .ok (.invokestatic 67, 3) := by decide +kernel
theorem dJ2_charAt_3b067_5 : decode cJ2_charAt_3b067 5 = .ok (.aload_n 0, 1) := by decide +kernel
theorem dJ2_charAt_3b067_6 : decode cJ2_charAt_3b067 6 = .ok (.iload_n 1, 1) := by decide +kernel
theorem dJ2_charAt_3b067_7 : decode cJ2_charAt_3b067 7 = .ok (.invokestatic 71, 3) := by decide +kernel
theorem dJ2_charAt_3b067_10 : decode cJ2_charAt_3b067 10 = .ok (.ireturn, 1) := by decide +kernel
theorem dJ2_checkIndex_2214a_0 : decode cJ2_checkIndex_2214a 0 = .ok (.iload_n 0, 1) := by decide +kernel
theorem dJ2_checkIndex_2214a_1 : decode cJ2_checkIndex_2214a 1 = .ok (.aload_n 1, 1) := by decide +kernel
theorem dJ2_checkIndex_2214a_2 : decode cJ2_checkIndex_2214a 2 = .ok (.invokestatic 48, 3) := by decide +kernel
theorem dJ2_checkIndex_2214a_5 : decode cJ2_checkIndex_2214a 5 = .ok (.invokestatic 414, 3) := by decide +kernel
theorem dJ2_checkIndex_2214a_8 : decode cJ2_checkIndex_2214a 8 = .ok (.return_, 1) := by decide +kernel
theorem dJ7_fill_53178_0 : decode cJ7_fill_53178 0 = .ok (.iconst 0, 1) := by decide +kernel
theorem dJ7_fill_53178_1 : decode cJ7_fill_53178 1 = .ok (.istore_n 2, 1) := by decide +kernel
theorem dJ7_fill_53178_2 : decode cJ7_fill_53178 2 = .ok (.aload_n 0, 1) := by decide +kernel
theorem dJ7_fill_53178_3 : decode cJ7_fill_53178 3 = .ok (.arraylength, 1) := by decide +kernel
theorem dJ7_fill_53178_4 : decode cJ7_fill_53178 4 = .ok (.istore_n 3, 1) := by decide +kernel
theorem dJ7_fill_53178_5 : decode cJ7_fill_53178 5 = .ok (.iload_n 2, 1) := by decide +kernel
theorem dJ7_fill_53178_6 : decode cJ7_fill_53178 6 = .ok (.iload_n 3, 1) := by decide +kernel
theorem dJ7_fill_53178_7 : decode cJ7_fill_53178 7 = .ok (.if_icmp .ge 13, 3) := by decide +kernel
theorem dJ7_fill_53178_10 : decode cJ7_fill_53178 10 = .ok (.aload_n 0, 1) := by decide +kernel
theorem dJ7_fill_53178_11 : decode cJ7_fill_53178 11 = .ok (.iload_n 2, 1) := by decide +kernel
theorem dJ7_fill_53178_12 : decode cJ7_fill_53178 12 = .ok (.iload_n 1, 1) := by decide +kernel
theorem dJ7_fill_53178_13 : decode cJ7_fill_53178 13 = .ok (.iastore, 1) := by decide +kernel
theorem dJ7_fill_53178_14 : decode cJ7_fill_53178 14 = .ok (.iinc 2 1, 3) := by decide +kernel
theorem dJ7_fill_53178_17 : decode cJ7_fill_53178 17 = .ok (.goto (-12), 3) := by decide +kernel
theorem dJ7_fill_53178_20 : decode cJ7_fill_53178 20 = .ok (.return_, 1) := by decide +kernel
theorem dJ3_checkIndex_8e157_0 : decode cJ3_checkIndex_8e157 0 = .ok (.iload_n 0, 1) := by decide +kernel
theorem dJ3_checkIndex_8e157_1 : decode cJ3_checkIndex_8e157 1 = .ok (.ifCond .lt 8, 3) := by decide +kernel
theorem dJ3_checkIndex_8e157_4 : decode cJ3_checkIndex_8e157 4 = .ok (.iload_n 0, 1) := by decide +kernel
theorem dJ3_checkIndex_8e157_5 : decode cJ3_checkIndex_8e157 5 = .ok (.iload_n 1, 1) := by decide +kernel
theorem dJ3_checkIndex_8e157_6 : decode cJ3_checkIndex_8e157 6 = .ok (.if_icmp .lt 10, 3) := by decide +kernel
theorem dJ3_checkIndex_8e157_9 : decode cJ3_checkIndex_8e157 9 = .ok (.aload_n 2, 1) := by decide +kernel
theorem dJ3_checkIndex_8e157_10 : decode cJ3_checkIndex_8e157 10 = .ok (.iload_n 0, 1) := by decide +kernel
theorem dJ3_checkIndex_8e157_11 : decode cJ3_checkIndex_8e157 11 = .ok (.iload_n 1, 1) := by decide +kernel
theorem dJ3_checkIndex_8e157_12 : decode cJ3_checkIndex_8e157 12 = .ok (.invokestatic 95, 3) := by decide +kernel
theorem dJ3_checkIndex_8e157_15 : decode cJ3_checkIndex_8e157 15 = .ok (.athrow, 1) := by decide +kernel
theorem dJ3_checkIndex_8e157_16 : decode cJ3_checkIndex_8e157 16 = .ok (.iload_n 0, 1) := by decide +kernel
theorem dJ3_checkIndex_8e157_17 : decode cJ3_checkIndex_8e157 17 = .ok (.ireturn, 1) := by decide +kernel
theorem dL_law_0 : decode cL_law 0 = .ok (.new 7, 3) := by decide +kernel
theorem dL_law_3 : decode cL_law 3 = .ok (.dup, 1) := by decide +kernel
theorem dL_law_4 : decode cL_law 4 = .ok (.invokespecial 9, 3) := by decide +kernel
theorem dL_law_7 : decode cL_law 7 = .ok (.astore_n 1, 1) := by decide +kernel
theorem dL_law_8 : decode cL_law 8 = .ok (.new 10, 3) := by decide +kernel
theorem dL_law_11 : decode cL_law 11 = .ok (.dup, 1) := by decide +kernel
theorem dL_law_12 : decode cL_law 12 = .ok (.invokespecial 12, 3) := by decide +kernel
theorem dL_law_15 : decode cL_law 15 = .ok (.astore_n 2, 1) := by decide +kernel
theorem dL_law_16 : decode cL_law 16 = .ok (.iconst 0, 1) := by decide +kernel
theorem dL_law_17 : decode cL_law 17 = .ok (.istore_n 3, 1) := by decide +kernel
theorem dL_law_18 : decode cL_law 18 = .ok (.iload_n 3, 1) := by decide +kernel
theorem dL_law_19 : decode cL_law 19 = .ok (.aload_n 0, 1) := by decide +kernel
theorem dL_law_20 : decode cL_law 20 = .ok (.arraylength, 1) := by decide +kernel
theorem dL_law_21 : decode cL_law 21 = .ok (.bipush 6, 2) := by decide +kernel
theorem dL_law_23 : decode cL_law 23 = .ok (.isub, 1) := by decide +kernel
theorem dL_law_24 : decode cL_law 24 = .ok (.if_icmp .gt 989, 3) := by decide +kernel
theorem dL_law_27 : decode cL_law 27 = .ok (.aload_n 0, 1) := by decide +kernel
theorem dL_law_28 : decode cL_law 28 = .ok (.iload_n 3, 1) := by decide +kernel
theorem dL_law_29 : decode cL_law 29 = .ok (.iaload, 1) := by decide +kernel
theorem dL_law_30 : decode cL_law 30 = .ok (.bipush 31, 2) := by decide +kernel
theorem dL_law_32 : decode cL_law 32 = .ok (.iand, 1) := by decide +kernel
theorem dL_law_33 : decode cL_law 33 = .ok (.tableswitch 974 0 30 #[139, 202, 225, 238, 261, 294, 343, 356, 395, 408, 431, 464, 477, 530, 543, 556, 579, 622, 655, 668, 681, 704, 737, 750, 773, 816, 839, 862, 905, 928, 951], 139) := by decide +kernel
theorem dL_law_172 : decode cL_law 172 = .ok (.aload_n 1, 1) := by decide +kernel
theorem dL_law_173 : decode cL_law 173 = .ok (.aload_n 0, 1) := by decide +kernel
theorem dL_law_174 : decode cL_law 174 = .ok (.iload_n 3, 1) := by decide +kernel
theorem dL_law_175 : decode cL_law 175 = .ok (.iconst 1, 1) := by decide +kernel
theorem dL_law_176 : decode cL_law 176 = .ok (.iadd, 1) := by decide +kernel
theorem dL_law_177 : decode cL_law 177 = .ok (.iaload, 1) := by decide +kernel
theorem dL_law_178 : decode cL_law 178 = .ok (.aload_n 0, 1) := by decide +kernel
theorem dL_law_179 : decode cL_law 179 = .ok (.iload_n 3, 1) := by decide +kernel
theorem dL_law_180 : decode cL_law 180 = .ok (.iconst 2, 1) := by decide +kernel
theorem dL_law_181 : decode cL_law 181 = .ok (.iadd, 1) := by decide +kernel
theorem dL_law_182 : decode cL_law 182 = .ok (.iaload, 1) := by decide +kernel
theorem dL_law_183 : decode cL_law 183 = .ok (.aload_n 0, 1) := by decide +kernel
theorem dL_law_184 : decode cL_law 184 = .ok (.iload_n 3, 1) := by decide +kernel
theorem dL_law_185 : decode cL_law 185 = .ok (.iconst 3, 1) := by decide +kernel
theorem dL_law_186 : decode cL_law 186 = .ok (.iadd, 1) := by decide +kernel
theorem dL_law_187 : decode cL_law 187 = .ok (.iaload, 1) := by decide +kernel
theorem dL_law_188 : decode cL_law 188 = .ok (.aload_n 0, 1) := by decide +kernel
theorem dL_law_189 : decode cL_law 189 = .ok (.iload_n 3, 1) := by decide +kernel
theorem dL_law_190 : decode cL_law 190 = .ok (.iconst 4, 1) := by decide +kernel
theorem dL_law_191 : decode cL_law 191 = .ok (.iadd, 1) := by decide +kernel
theorem dL_law_192 : decode cL_law 192 = .ok (.iaload, 1) := by decide +kernel
theorem dL_law_193 : decode cL_law 193 = .ok (.aload_n 0, 1) := by decide +kernel
theorem dL_law_194 : decode cL_law 194 = .ok (.iload_n 3, 1) := by decide +kernel
theorem dL_law_195 : decode cL_law 195 = .ok (.iconst 5, 1) := by decide +kernel
theorem dL_law_196 : decode cL_law 196 = .ok (.iadd, 1) := by decide +kernel
theorem dL_law_197 : decode cL_law 197 = .ok (.iaload, 1) := by decide +kernel
theorem dL_law_198 : decode cL_law 198 = .ok (.invokevirtual 13, 3) := by decide +kernel
theorem dL_law_201 : decode cL_law 201 = .ok (.pop, 1) := by decide +kernel
theorem dL_law_202 : decode cL_law 202 = .ok (.aload_n 2, 1) := by decide +kernel
theorem dL_law_203 : decode cL_law 203 = .ok (.aload_n 0, 1) := by decide +kernel
theorem dL_law_204 : decode cL_law 204 = .ok (.iload_n 3, 1) := by decide +kernel
theorem dL_law_205 : decode cL_law 205 = .ok (.iconst 1, 1) := by decide +kernel
theorem dL_law_206 : decode cL_law 206 = .ok (.iadd, 1) := by decide +kernel
theorem dL_law_207 : decode cL_law 207 = .ok (.iaload, 1) := by decide +kernel
theorem dL_law_208 : decode cL_law 208 = .ok (.aload_n 0, 1) := by decide +kernel
theorem dL_law_209 : decode cL_law 209 = .ok (.iload_n 3, 1) := by decide +kernel
theorem dL_law_210 : decode cL_law 210 = .ok (.iconst 2, 1) := by decide +kernel
theorem dL_law_211 : decode cL_law 211 = .ok (.iadd, 1) := by decide +kernel
theorem dL_law_212 : decode cL_law 212 = .ok (.iaload, 1) := by decide +kernel
theorem dL_law_213 : decode cL_law 213 = .ok (.aload_n 0, 1) := by decide +kernel
theorem dL_law_214 : decode cL_law 214 = .ok (.iload_n 3, 1) := by decide +kernel
theorem dL_law_215 : decode cL_law 215 = .ok (.iconst 3, 1) := by decide +kernel
theorem dL_law_216 : decode cL_law 216 = .ok (.iadd, 1) := by decide +kernel
theorem dL_law_217 : decode cL_law 217 = .ok (.iaload, 1) := by decide +kernel
theorem dL_law_218 : decode cL_law 218 = .ok (.aload_n 0, 1) := by decide +kernel
theorem dL_law_219 : decode cL_law 219 = .ok (.iload_n 3, 1) := by decide +kernel
theorem dL_law_220 : decode cL_law 220 = .ok (.iconst 4, 1) := by decide +kernel
theorem dL_law_221 : decode cL_law 221 = .ok (.iadd, 1) := by decide +kernel
theorem dL_law_222 : decode cL_law 222 = .ok (.iaload, 1) := by decide +kernel
theorem dL_law_223 : decode cL_law 223 = .ok (.aload_n 0, 1) := by decide +kernel
theorem dL_law_224 : decode cL_law 224 = .ok (.iload_n 3, 1) := by decide +kernel
theorem dL_law_225 : decode cL_law 225 = .ok (.iconst 5, 1) := by decide +kernel
theorem dL_law_226 : decode cL_law 226 = .ok (.iadd, 1) := by decide +kernel
theorem dL_law_227 : decode cL_law 227 = .ok (.iaload, 1) := by decide +kernel
theorem dL_law_228 : decode cL_law 228 = .ok (.invokevirtual 17, 3) := by decide +kernel
theorem dL_law_231 : decode cL_law 231 = .ok (.pop, 1) := by decide +kernel
theorem dL_law_232 : decode cL_law 232 = .ok (.goto 775, 3) := by decide +kernel
theorem dL_law_235 : decode cL_law 235 = .ok (.aload_n 1, 1) := by decide +kernel
theorem dL_law_236 : decode cL_law 236 = .ok (.aload_n 0, 1) := by decide +kernel
theorem dL_law_237 : decode cL_law 237 = .ok (.iload_n 3, 1) := by decide +kernel
theorem dL_law_238 : decode cL_law 238 = .ok (.iconst 1, 1) := by decide +kernel
theorem dL_law_239 : decode cL_law 239 = .ok (.iadd, 1) := by decide +kernel
theorem dL_law_240 : decode cL_law 240 = .ok (.iaload, 1) := by decide +kernel
theorem dL_law_241 : decode cL_law 241 = .ok (.invokevirtual 18, 3) := by decide +kernel
theorem dL_law_244 : decode cL_law 244 = .ok (.pop, 1) := by decide +kernel
theorem dL_law_245 : decode cL_law 245 = .ok (.aload_n 2, 1) := by decide +kernel
theorem dL_law_246 : decode cL_law 246 = .ok (.aload_n 0, 1) := by decide +kernel
theorem dL_law_247 : decode cL_law 247 = .ok (.iload_n 3, 1) := by decide +kernel
theorem dL_law_248 : decode cL_law 248 = .ok (.iconst 1, 1) := by decide +kernel
theorem dL_law_249 : decode cL_law 249 = .ok (.iadd, 1) := by decide +kernel
theorem dL_law_250 : decode cL_law 250 = .ok (.iaload, 1) := by decide +kernel
theorem dL_law_251 : decode cL_law 251 = .ok (.invokevirtual 22, 3) := by decide +kernel
theorem dL_law_254 : decode cL_law 254 = .ok (.pop, 1) := by decide +kernel
theorem dL_law_255 : decode cL_law 255 = .ok (.goto 752, 3) := by decide +kernel
theorem dL_law_258 : decode cL_law 258 = .ok (.aload_n 1, 1) := by decide +kernel
theorem dL_law_259 : decode cL_law 259 = .ok (.invokevirtual 23, 3) := by decide +kernel
theorem dL_law_262 : decode cL_law 262 = .ok (.pop, 1) := by decide +kernel
theorem dL_law_263 : decode cL_law 263 = .ok (.aload_n 2, 1) := by decide +kernel
theorem dL_law_264 : decode cL_law 264 = .ok (.invokevirtual 27, 3) := by decide +kernel
theorem dL_law_267 : decode cL_law 267 = .ok (.pop, 1) := by decide +kernel
theorem dL_law_268 : decode cL_law 268 = .ok (.goto 739, 3) := by decide +kernel
theorem dL_law_271 : decode cL_law 271 = .ok (.aload_n 1, 1) := by decide +kernel
theorem dL_law_272 : decode cL_law 272 = .ok (.aload_n 0, 1) := by decide +kernel
theorem dL_law_273 : decode cL_law 273 = .ok (.iload_n 3, 1) := by decide +kernel
theorem dL_law_274 : decode cL_law 274 = .ok (.iconst 1, 1) := by decide +kernel
theorem dL_law_275 : decode cL_law 275 = .ok (.iadd, 1) := by decide +kernel
theorem dL_law_276 : decode cL_law 276 = .ok (.iaload, 1) := by decide +kernel
theorem dL_law_277 : decode cL_law 277 = .ok (.invokevirtual 28, 3) := by decide +kernel
theorem dL_law_280 : decode cL_law 280 = .ok (.pop, 1) := by decide +kernel
theorem dL_law_281 : decode cL_law 281 = .ok (.aload_n 2, 1) := by decide +kernel
theorem dL_law_282 : decode cL_law 282 = .ok (.aload_n 0, 1) := by decide +kernel
theorem dL_law_283 : decode cL_law 283 = .ok (.iload_n 3, 1) := by decide +kernel
theorem dL_law_284 : decode cL_law 284 = .ok (.iconst 1, 1) := by decide +kernel
theorem dL_law_285 : decode cL_law 285 = .ok (.iadd, 1) := by decide +kernel
theorem dL_law_286 : decode cL_law 286 = .ok (.iaload, 1) := by decide +kernel
theorem dL_law_287 : decode cL_law 287 = .ok (.invokevirtual 31, 3) := by decide +kernel
theorem dL_law_290 : decode cL_law 290 = .ok (.pop, 1) := by decide +kernel
theorem dL_law_291 : decode cL_law 291 = .ok (.goto 716, 3) := by decide +kernel
theorem dL_law_294 : decode cL_law 294 = .ok (.aload_n 1, 1) := by decide +kernel
theorem dL_law_295 : decode cL_law 295 = .ok (.aload_n 0, 1) := by decide +kernel
theorem dL_law_296 : decode cL_law 296 = .ok (.iload_n 3, 1) := by decide +kernel
theorem dL_law_297 : decode cL_law 297 = .ok (.iconst 1, 1) := by decide +kernel
theorem dL_law_298 : decode cL_law 298 = .ok (.iadd, 1) := by decide +kernel
theorem dL_law_299 : decode cL_law 299 = .ok (.iaload, 1) := by decide +kernel
theorem dL_law_300 : decode cL_law 300 = .ok (.aload_n 0, 1) := by decide +kernel
theorem dL_law_301 : decode cL_law 301 = .ok (.iload_n 3, 1) := by decide +kernel
theorem dL_law_302 : decode cL_law 302 = .ok (.iconst 2, 1) := by decide +kernel
theorem dL_law_303 : decode cL_law 303 = .ok (.iadd, 1) := by decide +kernel
theorem dL_law_304 : decode cL_law 304 = .ok (.iaload, 1) := by decide +kernel
theorem dL_law_305 : decode cL_law 305 = .ok (.invokevirtual 32, 3) := by decide +kernel
theorem dL_law_308 : decode cL_law 308 = .ok (.pop, 1) := by decide +kernel
theorem dL_law_309 : decode cL_law 309 = .ok (.aload_n 2, 1) := by decide +kernel
theorem dL_law_310 : decode cL_law 310 = .ok (.aload_n 0, 1) := by decide +kernel
theorem dL_law_311 : decode cL_law 311 = .ok (.iload_n 3, 1) := by decide +kernel
theorem dL_law_312 : decode cL_law 312 = .ok (.iconst 1, 1) := by decide +kernel
theorem dL_law_313 : decode cL_law 313 = .ok (.iadd, 1) := by decide +kernel
theorem dL_law_314 : decode cL_law 314 = .ok (.iaload, 1) := by decide +kernel
theorem dL_law_315 : decode cL_law 315 = .ok (.aload_n 0, 1) := by decide +kernel
theorem dL_law_316 : decode cL_law 316 = .ok (.iload_n 3, 1) := by decide +kernel
theorem dL_law_317 : decode cL_law 317 = .ok (.iconst 2, 1) := by decide +kernel
theorem dL_law_318 : decode cL_law 318 = .ok (.iadd, 1) := by decide +kernel
theorem dL_law_319 : decode cL_law 319 = .ok (.iaload, 1) := by decide +kernel
theorem dL_law_320 : decode cL_law 320 = .ok (.invokevirtual 36, 3) := by decide +kernel
theorem dL_law_323 : decode cL_law 323 = .ok (.pop, 1) := by decide +kernel
theorem dL_law_324 : decode cL_law 324 = .ok (.goto 683, 3) := by decide +kernel
theorem dL_law_327 : decode cL_law 327 = .ok (.aload_n 1, 1) := by decide +kernel
theorem dL_law_328 : decode cL_law 328 = .ok (.aload_n 0, 1) := by decide +kernel
theorem dL_law_329 : decode cL_law 329 = .ok (.iload_n 3, 1) := by decide +kernel
theorem dL_law_330 : decode cL_law 330 = .ok (.iconst 1, 1) := by decide +kernel
theorem dL_law_331 : decode cL_law 331 = .ok (.iadd, 1) := by decide +kernel
theorem dL_law_332 : decode cL_law 332 = .ok (.iaload, 1) := by decide +kernel
theorem dL_law_333 : decode cL_law 333 = .ok (.aload_n 0, 1) := by decide +kernel
theorem dL_law_334 : decode cL_law 334 = .ok (.iload_n 3, 1) := by decide +kernel
theorem dL_law_335 : decode cL_law 335 = .ok (.iconst 2, 1) := by decide +kernel
theorem dL_law_336 : decode cL_law 336 = .ok (.iadd, 1) := by decide +kernel
theorem dL_law_337 : decode cL_law 337 = .ok (.iaload, 1) := by decide +kernel
theorem dL_law_338 : decode cL_law 338 = .ok (.ifCond .eq 7, 3) := by decide +kernel
theorem dL_law_341 : decode cL_law 341 = .ok (.iconst 1, 1) := by decide +kernel
theorem dL_law_342 : decode cL_law 342 = .ok (.goto 4, 3) := by decide +kernel
theorem dL_law_345 : decode cL_law 345 = .ok (.iconst 0, 1) := by decide +kernel
theorem dL_law_346 : decode cL_law 346 = .ok (.invokevirtual 37, 3) := by decide +kernel
theorem dL_law_349 : decode cL_law 349 = .ok (.pop, 1) := by decide +kernel
theorem dL_law_350 : decode cL_law 350 = .ok (.aload_n 2, 1) := by decide +kernel
theorem dL_law_351 : decode cL_law 351 = .ok (.aload_n 0, 1) := by decide +kernel
theorem dL_law_352 : decode cL_law 352 = .ok (.iload_n 3, 1) := by decide +kernel
theorem dL_law_353 : decode cL_law 353 = .ok (.iconst 1, 1) := by decide +kernel
theorem dL_law_354 : decode cL_law 354 = .ok (.iadd, 1) := by decide +kernel
theorem dL_law_355 : decode cL_law 355 = .ok (.iaload, 1) := by decide +kernel
theorem dL_law_356 : decode cL_law 356 = .ok (.aload_n 0, 1) := by decide +kernel
theorem dL_law_357 : decode cL_law 357 = .ok (.iload_n 3, 1) := by decide +kernel
theorem dL_law_358 : decode cL_law 358 = .ok (.iconst 2, 1) := by decide +kernel
theorem dL_law_359 : decode cL_law 359 = .ok (.iadd, 1) := by decide +kernel
theorem dL_law_360 : decode cL_law 360 = .ok (.iaload, 1) := by decide +kernel
theorem dL_law_361 : decode cL_law 361 = .ok (.ifCond .eq 7, 3) := by decide +kernel
theorem dL_law_364 : decode cL_law 364 = .ok (.iconst 1, 1) := by decide +kernel
theorem dL_law_365 : decode cL_law 365 = .ok (.goto 4, 3) := by decide +kernel
theorem dL_law_368 : decode cL_law 368 = .ok (.iconst 0, 1) := by decide +kernel
theorem dL_law_369 : decode cL_law 369 = .ok (.invokevirtual 41, 3) := by decide +kernel
theorem dL_law_372 : decode cL_law 372 = .ok (.pop, 1) := by decide +kernel
theorem dL_law_373 : decode cL_law 373 = .ok (.goto 634, 3) := by decide +kernel
theorem dL_law_376 : decode cL_law 376 = .ok (.aload_n 1, 1) := by decide +kernel
theorem dL_law_377 : decode cL_law 377 = .ok (.invokevirtual 42, 3) := by decide +kernel
theorem dL_law_380 : decode cL_law 380 = .ok (.pop, 1) := by decide +kernel
theorem dL_law_381 : decode cL_law 381 = .ok (.aload_n 2, 1) := by decide +kernel
theorem dL_law_382 : decode cL_law 382 = .ok (.invokevirtual 45, 3) := by decide +kernel
theorem dL_law_385 : decode cL_law 385 = .ok (.pop, 1) := by decide +kernel
theorem dL_law_386 : decode cL_law 386 = .ok (.goto 621, 3) := by decide +kernel
theorem dL_law_389 : decode cL_law 389 = .ok (.aload_n 1, 1) := by decide +kernel
theorem dL_law_390 : decode cL_law 390 = .ok (.aload_n 0, 1) := by decide +kernel
theorem dL_law_391 : decode cL_law 391 = .ok (.iload_n 3, 1) := by decide +kernel
theorem dL_law_392 : decode cL_law 392 = .ok (.iconst 1, 1) := by decide +kernel
theorem dL_law_393 : decode cL_law 393 = .ok (.iadd, 1) := by decide +kernel
theorem dL_law_394 : decode cL_law 394 = .ok (.iaload, 1) := by decide +kernel
theorem dL_law_395 : decode cL_law 395 = .ok (.ifCond .eq 7, 3) := by decide +kernel
theorem dL_law_398 : decode cL_law 398 = .ok (.iconst 1, 1) := by decide +kernel
theorem dL_law_399 : decode cL_law 399 = .ok (.goto 4, 3) := by decide +kernel
theorem dL_law_402 : decode cL_law 402 = .ok (.iconst 0, 1) := by decide +kernel
theorem dL_law_403 : decode cL_law 403 = .ok (.invokevirtual 46, 3) := by decide +kernel
theorem dL_law_406 : decode cL_law 406 = .ok (.pop, 1) := by decide +kernel
theorem dL_law_407 : decode cL_law 407 = .ok (.aload_n 2, 1) := by decide +kernel
theorem dL_law_408 : decode cL_law 408 = .ok (.aload_n 0, 1) := by decide +kernel
theorem dL_law_409 : decode cL_law 409 = .ok (.iload_n 3, 1) := by decide +kernel
theorem dL_law_410 : decode cL_law 410 = .ok (.iconst 1, 1) := by decide +kernel
theorem dL_law_411 : decode cL_law 411 = .ok (.iadd, 1) := by decide +kernel
theorem dL_law_412 : decode cL_law 412 = .ok (.iaload, 1) := by decide +kernel
theorem dL_law_413 : decode cL_law 413 = .ok (.ifCond .eq 7, 3) := by decide +kernel
theorem dL_law_416 : decode cL_law 416 = .ok (.iconst 1, 1) := by decide +kernel
theorem dL_law_417 : decode cL_law 417 = .ok (.goto 4, 3) := by decide +kernel
theorem dL_law_420 : decode cL_law 420 = .ok (.iconst 0, 1) := by decide +kernel
theorem dL_law_421 : decode cL_law 421 = .ok (.invokevirtual 50, 3) := by decide +kernel
theorem dL_law_424 : decode cL_law 424 = .ok (.pop, 1) := by decide +kernel
theorem dL_law_425 : decode cL_law 425 = .ok (.goto 582, 3) := by decide +kernel
theorem dL_law_428 : decode cL_law 428 = .ok (.aload_n 1, 1) := by decide +kernel
theorem dL_law_429 : decode cL_law 429 = .ok (.invokevirtual 51, 3) := by decide +kernel
theorem dL_law_432 : decode cL_law 432 = .ok (.pop, 1) := by decide +kernel
theorem dL_law_433 : decode cL_law 433 = .ok (.aload_n 2, 1) := by decide +kernel
theorem dL_law_434 : decode cL_law 434 = .ok (.invokevirtual 54, 3) := by decide +kernel
theorem dL_law_437 : decode cL_law 437 = .ok (.pop, 1) := by decide +kernel
theorem dL_law_438 : decode cL_law 438 = .ok (.goto 569, 3) := by decide +kernel
theorem dL_law_441 : decode cL_law 441 = .ok (.aload_n 1, 1) := by decide +kernel
theorem dL_law_442 : decode cL_law 442 = .ok (.aload_n 0, 1) := by decide +kernel
theorem dL_law_443 : decode cL_law 443 = .ok (.iload_n 3, 1) := by decide +kernel
theorem dL_law_444 : decode cL_law 444 = .ok (.iconst 1, 1) := by decide +kernel
theorem dL_law_445 : decode cL_law 445 = .ok (.iadd, 1) := by decide +kernel
theorem dL_law_446 : decode cL_law 446 = .ok (.iaload, 1) := by decide +kernel
theorem dL_law_447 : decode cL_law 447 = .ok (.invokevirtual 55, 3) := by decide +kernel
theorem dL_law_450 : decode cL_law 450 = .ok (.pop, 1) := by decide +kernel
theorem dL_law_451 : decode cL_law 451 = .ok (.aload_n 2, 1) := by decide +kernel
theorem dL_law_452 : decode cL_law 452 = .ok (.aload_n 0, 1) := by decide +kernel
theorem dL_law_453 : decode cL_law 453 = .ok (.iload_n 3, 1) := by decide +kernel
theorem dL_law_454 : decode cL_law 454 = .ok (.iconst 1, 1) := by decide +kernel
theorem dL_law_455 : decode cL_law 455 = .ok (.iadd, 1) := by decide +kernel
theorem dL_law_456 : decode cL_law 456 = .ok (.iaload, 1) := by decide +kernel
theorem dL_law_457 : decode cL_law 457 = .ok (.invokevirtual 58, 3) := by decide +kernel
theorem dL_law_460 : decode cL_law 460 = .ok (.pop, 1) := by decide +kernel
theorem dL_law_461 : decode cL_law 461 = .ok (.goto 546, 3) := by decide +kernel
theorem dL_law_464 : decode cL_law 464 = .ok (.aload_n 1, 1) := by decide +kernel
theorem dL_law_465 : decode cL_law 465 = .ok (.aload_n 0, 1) := by decide +kernel
theorem dL_law_466 : decode cL_law 466 = .ok (.iload_n 3, 1) := by decide +kernel
theorem dL_law_467 : decode cL_law 467 = .ok (.iconst 1, 1) := by decide +kernel
theorem dL_law_468 : decode cL_law 468 = .ok (.iadd, 1) := by decide +kernel
theorem dL_law_469 : decode cL_law 469 = .ok (.iaload, 1) := by decide +kernel
theorem dL_law_470 : decode cL_law 470 = .ok (.aload_n 0, 1) := by decide +kernel
theorem dL_law_471 : decode cL_law 471 = .ok (.iload_n 3, 1) := by decide +kernel
theorem dL_law_472 : decode cL_law 472 = .ok (.iconst 2, 1) := by decide +kernel
theorem dL_law_473 : decode cL_law 473 = .ok (.iadd, 1) := by decide +kernel
theorem dL_law_474 : decode cL_law 474 = .ok (.iaload, 1) := by decide +kernel
theorem dL_law_475 : decode cL_law 475 = .ok (.invokevirtual 59, 3) := by decide +kernel
theorem dL_law_478 : decode cL_law 478 = .ok (.pop, 1) := by decide +kernel
theorem dL_law_479 : decode cL_law 479 = .ok (.aload_n 2, 1) := by decide +kernel
theorem dL_law_480 : decode cL_law 480 = .ok (.aload_n 0, 1) := by decide +kernel
theorem dL_law_481 : decode cL_law 481 = .ok (.iload_n 3, 1) := by decide +kernel
theorem dL_law_482 : decode cL_law 482 = .ok (.iconst 1, 1) := by decide +kernel
theorem dL_law_483 : decode cL_law 483 = .ok (.iadd, 1) := by decide +kernel
theorem dL_law_484 : decode cL_law 484 = .ok (.iaload, 1) := by decide +kernel
theorem dL_law_485 : decode cL_law 485 = .ok (.aload_n 0, 1) := by decide +kernel
theorem dL_law_486 : decode cL_law 486 = .ok (.iload_n 3, 1) := by decide +kernel
theorem dL_law_487 : decode cL_law 487 = .ok (.iconst 2, 1) := by decide +kernel
theorem dL_law_488 : decode cL_law 488 = .ok (.iadd, 1) := by decide +kernel
theorem dL_law_489 : decode cL_law 489 = .ok (.iaload, 1) := by decide +kernel
theorem dL_law_490 : decode cL_law 490 = .ok (.invokevirtual 62, 3) := by decide +kernel
theorem dL_law_493 : decode cL_law 493 = .ok (.pop, 1) := by decide +kernel
theorem dL_law_494 : decode cL_law 494 = .ok (.goto 513, 3) := by decide +kernel
theorem dL_law_497 : decode cL_law 497 = .ok (.aload_n 1, 1) := by decide +kernel
theorem dL_law_498 : decode cL_law 498 = .ok (.invokevirtual 63, 3) := by decide +kernel
theorem dL_law_501 : decode cL_law 501 = .ok (.pop, 1) := by decide +kernel
theorem dL_law_502 : decode cL_law 502 = .ok (.aload_n 2, 1) := by decide +kernel
theorem dL_law_503 : decode cL_law 503 = .ok (.invokevirtual 66, 3) := by decide +kernel
theorem dL_law_506 : decode cL_law 506 = .ok (.pop, 1) := by decide +kernel
theorem dL_law_507 : decode cL_law 507 = .ok (.goto 500, 3) := by decide +kernel
theorem dL_law_510 : decode cL_law 510 = .ok (.aload_n 1, 1) := by decide +kernel
theorem dL_law_511 : decode cL_law 511 = .ok (.aload_n 0, 1) := by decide +kernel
theorem dL_law_512 : decode cL_law 512 = .ok (.iload_n 3, 1) := by decide +kernel
theorem dL_law_513 : decode cL_law 513 = .ok (.iconst 1, 1) := by decide +kernel
theorem dL_law_514 : decode cL_law 514 = .ok (.iadd, 1) := by decide +kernel
theorem dL_law_515 : decode cL_law 515 = .ok (.iaload, 1) := by decide +kernel
theorem dL_law_516 : decode cL_law 516 = .ok (.aload_n 0, 1) := by decide +kernel
theorem dL_law_517 : decode cL_law 517 = .ok (.iload_n 3, 1) := by decide +kernel
theorem dL_law_518 : decode cL_law 518 = .ok (.iconst 2, 1) := by decide +kernel
theorem dL_law_519 : decode cL_law 519 = .ok (.iadd, 1) := by decide +kernel
theorem dL_law_520 : decode cL_law 520 = .ok (.iaload, 1) := by decide +kernel
theorem dL_law_521 : decode cL_law 521 = .ok (.aload_n 0, 1) := by decide +kernel
theorem dL_law_522 : decode cL_law 522 = .ok (.iload_n 3, 1) := by decide +kernel
theorem dL_law_523 : decode cL_law 523 = .ok (.iconst 3, 1) := by decide +kernel
theorem dL_law_524 : decode cL_law 524 = .ok (.iadd, 1) := by decide +kernel
theorem dL_law_525 : decode cL_law 525 = .ok (.iaload, 1) := by decide +kernel
theorem dL_law_526 : decode cL_law 526 = .ok (.aload_n 0, 1) := by decide +kernel
theorem dL_law_527 : decode cL_law 527 = .ok (.iload_n 3, 1) := by decide +kernel
theorem dL_law_528 : decode cL_law 528 = .ok (.iconst 4, 1) := by decide +kernel
theorem dL_law_529 : decode cL_law 529 = .ok (.iadd, 1) := by decide +kernel
theorem dL_law_530 : decode cL_law 530 = .ok (.iaload, 1) := by decide +kernel
theorem dL_law_531 : decode cL_law 531 = .ok (.invokevirtual 67, 3) := by decide +kernel
theorem dL_law_534 : decode cL_law 534 = .ok (.pop, 1) := by decide +kernel
theorem dL_law_535 : decode cL_law 535 = .ok (.aload_n 2, 1) := by decide +kernel
theorem dL_law_536 : decode cL_law 536 = .ok (.aload_n 0, 1) := by decide +kernel
theorem dL_law_537 : decode cL_law 537 = .ok (.iload_n 3, 1) := by decide +kernel
theorem dL_law_538 : decode cL_law 538 = .ok (.iconst 1, 1) := by decide +kernel
theorem dL_law_539 : decode cL_law 539 = .ok (.iadd, 1) := by decide +kernel
theorem dL_law_540 : decode cL_law 540 = .ok (.iaload, 1) := by decide +kernel
theorem dL_law_541 : decode cL_law 541 = .ok (.aload_n 0, 1) := by decide +kernel
theorem dL_law_542 : decode cL_law 542 = .ok (.iload_n 3, 1) := by decide +kernel
theorem dL_law_543 : decode cL_law 543 = .ok (.iconst 2, 1) := by decide +kernel
theorem dL_law_544 : decode cL_law 544 = .ok (.iadd, 1) := by decide +kernel
theorem dL_law_545 : decode cL_law 545 = .ok (.iaload, 1) := by decide +kernel
theorem dL_law_546 : decode cL_law 546 = .ok (.aload_n 0, 1) := by decide +kernel
theorem dL_law_547 : decode cL_law 547 = .ok (.iload_n 3, 1) := by decide +kernel
theorem dL_law_548 : decode cL_law 548 = .ok (.iconst 3, 1) := by decide +kernel
theorem dL_law_549 : decode cL_law 549 = .ok (.iadd, 1) := by decide +kernel
theorem dL_law_550 : decode cL_law 550 = .ok (.iaload, 1) := by decide +kernel
theorem dL_law_551 : decode cL_law 551 = .ok (.aload_n 0, 1) := by decide +kernel
theorem dL_law_552 : decode cL_law 552 = .ok (.iload_n 3, 1) := by decide +kernel
theorem dL_law_553 : decode cL_law 553 = .ok (.iconst 4, 1) := by decide +kernel
theorem dL_law_554 : decode cL_law 554 = .ok (.iadd, 1) := by decide +kernel
theorem dL_law_555 : decode cL_law 555 = .ok (.iaload, 1) := by decide +kernel
theorem dL_law_556 : decode cL_law 556 = .ok (.invokevirtual 71, 3) := by decide +kernel
theorem dL_law_559 : decode cL_law 559 = .ok (.pop, 1) := by decide +kernel
theorem dL_law_560 : decode cL_law 560 = .ok (.goto 447, 3) := by decide +kernel
theorem dL_law_563 : decode cL_law 563 = .ok (.aload_n 1, 1) := by decide +kernel
theorem dL_law_564 : decode cL_law 564 = .ok (.invokevirtual 72, 3) := by decide +kernel
theorem dL_law_567 : decode cL_law 567 = .ok (.pop, 1) := by decide +kernel
theorem dL_law_568 : decode cL_law 568 = .ok (.aload_n 2, 1) := by decide +kernel
theorem dL_law_569 : decode cL_law 569 = .ok (.invokevirtual 75, 3) := by decide +kernel
theorem dL_law_572 : decode cL_law 572 = .ok (.pop, 1) := by decide +kernel
theorem dL_law_573 : decode cL_law 573 = .ok (.goto 434, 3) := by decide +kernel
theorem dL_law_576 : decode cL_law 576 = .ok (.aload_n 1, 1) := by decide +kernel
theorem dL_law_577 : decode cL_law 577 = .ok (.invokevirtual 76, 3) := by decide +kernel
theorem dL_law_580 : decode cL_law 580 = .ok (.pop, 1) := by decide +kernel
theorem dL_law_581 : decode cL_law 581 = .ok (.aload_n 2, 1) := by decide +kernel
theorem dL_law_582 : decode cL_law 582 = .ok (.invokevirtual 79, 3) := by decide +kernel
theorem dL_law_585 : decode cL_law 585 = .ok (.pop, 1) := by decide +kernel
theorem dL_law_586 : decode cL_law 586 = .ok (.goto 421, 3) := by decide +kernel
theorem dL_law_589 : decode cL_law 589 = .ok (.aload_n 1, 1) := by decide +kernel
theorem dL_law_590 : decode cL_law 590 = .ok (.aload_n 0, 1) := by decide +kernel
theorem dL_law_591 : decode cL_law 591 = .ok (.iload_n 3, 1) := by decide +kernel
theorem dL_law_592 : decode cL_law 592 = .ok (.iconst 1, 1) := by decide +kernel
theorem dL_law_593 : decode cL_law 593 = .ok (.iadd, 1) := by decide +kernel
theorem dL_law_594 : decode cL_law 594 = .ok (.iaload, 1) := by decide +kernel
theorem dL_law_595 : decode cL_law 595 = .ok (.invokevirtual 80, 3) := by decide +kernel
theorem dL_law_598 : decode cL_law 598 = .ok (.pop, 1) := by decide +kernel
theorem dL_law_599 : decode cL_law 599 = .ok (.aload_n 2, 1) := by decide +kernel
theorem dL_law_600 : decode cL_law 600 = .ok (.aload_n 0, 1) := by decide +kernel
theorem dL_law_601 : decode cL_law 601 = .ok (.iload_n 3, 1) := by decide +kernel
theorem dL_law_602 : decode cL_law 602 = .ok (.iconst 1, 1) := by decide +kernel
theorem dL_law_603 : decode cL_law 603 = .ok (.iadd, 1) := by decide +kernel
theorem dL_law_604 : decode cL_law 604 = .ok (.iaload, 1) := by decide +kernel
theorem dL_law_605 : decode cL_law 605 = .ok (.invokevirtual 83, 3) := by decide +kernel
theorem dL_law_608 : decode cL_law 608 = .ok (.pop, 1) := by decide +kernel
theorem dL_law_609 : decode cL_law 609 = .ok (.goto 398, 3) := by decide +kernel
theorem dL_law_612 : decode cL_law 612 = .ok (.aload_n 1, 1) := by decide +kernel
theorem dL_law_613 : decode cL_law 613 = .ok (.aload_n 0, 1) := by decide +kernel
theorem dL_law_614 : decode cL_law 614 = .ok (.iload_n 3, 1) := by decide +kernel
theorem dL_law_615 : decode cL_law 615 = .ok (.iconst 1, 1) := by decide +kernel
theorem dL_law_616 : decode cL_law 616 = .ok (.iadd, 1) := by decide +kernel
theorem dL_law_617 : decode cL_law 617 = .ok (.iaload, 1) := by decide +kernel
theorem dL_law_618 : decode cL_law 618 = .ok (.aload_n 0, 1) := by decide +kernel
theorem dL_law_619 : decode cL_law 619 = .ok (.iload_n 3, 1) := by decide +kernel
theorem dL_law_620 : decode cL_law 620 = .ok (.iconst 2, 1) := by decide +kernel
theorem dL_law_621 : decode cL_law 621 = .ok (.iadd, 1) := by decide +kernel
theorem dL_law_622 : decode cL_law 622 = .ok (.iaload, 1) := by decide +kernel
theorem dL_law_623 : decode cL_law 623 = .ok (.aload_n 0, 1) := by decide +kernel
theorem dL_law_624 : decode cL_law 624 = .ok (.iload_n 3, 1) := by decide +kernel
theorem dL_law_625 : decode cL_law 625 = .ok (.iconst 3, 1) := by decide +kernel
theorem dL_law_626 : decode cL_law 626 = .ok (.iadd, 1) := by decide +kernel
theorem dL_law_627 : decode cL_law 627 = .ok (.iaload, 1) := by decide +kernel
theorem dL_law_628 : decode cL_law 628 = .ok (.invokevirtual 84, 3) := by decide +kernel
theorem dL_law_631 : decode cL_law 631 = .ok (.pop, 1) := by decide +kernel
theorem dL_law_632 : decode cL_law 632 = .ok (.aload_n 2, 1) := by decide +kernel
theorem dL_law_633 : decode cL_law 633 = .ok (.aload_n 0, 1) := by decide +kernel
theorem dL_law_634 : decode cL_law 634 = .ok (.iload_n 3, 1) := by decide +kernel
theorem dL_law_635 : decode cL_law 635 = .ok (.iconst 1, 1) := by decide +kernel
theorem dL_law_636 : decode cL_law 636 = .ok (.iadd, 1) := by decide +kernel
theorem dL_law_637 : decode cL_law 637 = .ok (.iaload, 1) := by decide +kernel
theorem dL_law_638 : decode cL_law 638 = .ok (.aload_n 0, 1) := by decide +kernel
theorem dL_law_639 : decode cL_law 639 = .ok (.iload_n 3, 1) := by decide +kernel
theorem dL_law_640 : decode cL_law 640 = .ok (.iconst 2, 1) := by decide +kernel
theorem dL_law_641 : decode cL_law 641 = .ok (.iadd, 1) := by decide +kernel
theorem dL_law_642 : decode cL_law 642 = .ok (.iaload, 1) := by decide +kernel
theorem dL_law_643 : decode cL_law 643 = .ok (.aload_n 0, 1) := by decide +kernel
theorem dL_law_644 : decode cL_law 644 = .ok (.iload_n 3, 1) := by decide +kernel
theorem dL_law_645 : decode cL_law 645 = .ok (.iconst 3, 1) := by decide +kernel
theorem dL_law_646 : decode cL_law 646 = .ok (.iadd, 1) := by decide +kernel
theorem dL_law_647 : decode cL_law 647 = .ok (.iaload, 1) := by decide +kernel
theorem dL_law_648 : decode cL_law 648 = .ok (.invokevirtual 88, 3) := by decide +kernel
theorem dL_law_651 : decode cL_law 651 = .ok (.pop, 1) := by decide +kernel
theorem dL_law_652 : decode cL_law 652 = .ok (.goto 355, 3) := by decide +kernel
theorem dL_law_655 : decode cL_law 655 = .ok (.aload_n 1, 1) := by decide +kernel
theorem dL_law_656 : decode cL_law 656 = .ok (.aload_n 0, 1) := by decide +kernel
theorem dL_law_657 : decode cL_law 657 = .ok (.iload_n 3, 1) := by decide +kernel
theorem dL_law_658 : decode cL_law 658 = .ok (.iconst 1, 1) := by decide +kernel
theorem dL_law_659 : decode cL_law 659 = .ok (.iadd, 1) := by decide +kernel
theorem dL_law_660 : decode cL_law 660 = .ok (.iaload, 1) := by decide +kernel
theorem dL_law_661 : decode cL_law 661 = .ok (.aload_n 0, 1) := by decide +kernel
theorem dL_law_662 : decode cL_law 662 = .ok (.iload_n 3, 1) := by decide +kernel
theorem dL_law_663 : decode cL_law 663 = .ok (.iconst 2, 1) := by decide +kernel
theorem dL_law_664 : decode cL_law 664 = .ok (.iadd, 1) := by decide +kernel
theorem dL_law_665 : decode cL_law 665 = .ok (.iaload, 1) := by decide +kernel
theorem dL_law_666 : decode cL_law 666 = .ok (.invokevirtual 89, 3) := by decide +kernel
theorem dL_law_669 : decode cL_law 669 = .ok (.pop, 1) := by decide +kernel
theorem dL_law_670 : decode cL_law 670 = .ok (.aload_n 2, 1) := by decide +kernel
theorem dL_law_671 : decode cL_law 671 = .ok (.aload_n 0, 1) := by decide +kernel
theorem dL_law_672 : decode cL_law 672 = .ok (.iload_n 3, 1) := by decide +kernel
theorem dL_law_673 : decode cL_law 673 = .ok (.iconst 1, 1) := by decide +kernel
theorem dL_law_674 : decode cL_law 674 = .ok (.iadd, 1) := by decide +kernel
theorem dL_law_675 : decode cL_law 675 = .ok (.iaload, 1) := by decide +kernel
theorem dL_law_676 : decode cL_law 676 = .ok (.aload_n 0, 1) := by decide +kernel
theorem dL_law_677 : decode cL_law 677 = .ok (.iload_n 3, 1) := by decide +kernel
theorem dL_law_678 : decode cL_law 678 = .ok (.iconst 2, 1) := by decide +kernel
theorem dL_law_679 : decode cL_law 679 = .ok (.iadd, 1) := by decide +kernel
theorem dL_law_680 : decode cL_law 680 = .ok (.iaload, 1) := by decide +kernel
theorem dL_law_681 : decode cL_law 681 = .ok (.invokevirtual 92, 3) := by decide +kernel
theorem dL_law_684 : decode cL_law 684 = .ok (.pop, 1) := by decide +kernel
theorem dL_law_685 : decode cL_law 685 = .ok (.goto 322, 3) := by decide +kernel
theorem dL_law_688 : decode cL_law 688 = .ok (.aload_n 1, 1) := by decide +kernel
theorem dL_law_689 : decode cL_law 689 = .ok (.invokevirtual 93, 3) := by decide +kernel
theorem dL_law_692 : decode cL_law 692 = .ok (.pop, 1) := by decide +kernel
theorem dL_law_693 : decode cL_law 693 = .ok (.aload_n 2, 1) := by decide +kernel
theorem dL_law_694 : decode cL_law 694 = .ok (.invokevirtual 97, 3) := by decide +kernel
theorem dL_law_697 : decode cL_law 697 = .ok (.pop, 1) := by decide +kernel
theorem dL_law_698 : decode cL_law 698 = .ok (.goto 309, 3) := by decide +kernel
theorem dL_law_701 : decode cL_law 701 = .ok (.aload_n 1, 1) := by decide +kernel
theorem dL_law_702 : decode cL_law 702 = .ok (.invokevirtual 98, 3) := by decide +kernel
theorem dL_law_705 : decode cL_law 705 = .ok (.pop, 1) := by decide +kernel
theorem dL_law_706 : decode cL_law 706 = .ok (.aload_n 2, 1) := by decide +kernel
theorem dL_law_707 : decode cL_law 707 = .ok (.invokevirtual 101, 3) := by decide +kernel
theorem dL_law_710 : decode cL_law 710 = .ok (.pop, 1) := by decide +kernel
theorem dL_law_711 : decode cL_law 711 = .ok (.goto 296, 3) := by decide +kernel
theorem dL_law_714 : decode cL_law 714 = .ok (.aload_n 1, 1) := by decide +kernel
theorem dL_law_715 : decode cL_law 715 = .ok (.aload_n 0, 1) := by decide +kernel
theorem dL_law_716 : decode cL_law 716 = .ok (.iload_n 3, 1) := by decide +kernel
theorem dL_law_717 : decode cL_law 717 = .ok (.iconst 1, 1) := by decide +kernel
theorem dL_law_718 : decode cL_law 718 = .ok (.iadd, 1) := by decide +kernel
theorem dL_law_719 : decode cL_law 719 = .ok (.iaload, 1) := by decide +kernel
theorem dL_law_720 : decode cL_law 720 = .ok (.invokevirtual 102, 3) := by decide +kernel
theorem dL_law_723 : decode cL_law 723 = .ok (.pop, 1) := by decide +kernel
theorem dL_law_724 : decode cL_law 724 = .ok (.aload_n 2, 1) := by decide +kernel
theorem dL_law_725 : decode cL_law 725 = .ok (.aload_n 0, 1) := by decide +kernel
theorem dL_law_726 : decode cL_law 726 = .ok (.iload_n 3, 1) := by decide +kernel
theorem dL_law_727 : decode cL_law 727 = .ok (.iconst 1, 1) := by decide +kernel
theorem dL_law_728 : decode cL_law 728 = .ok (.iadd, 1) := by decide +kernel
theorem dL_law_729 : decode cL_law 729 = .ok (.iaload, 1) := by decide +kernel
theorem dL_law_730 : decode cL_law 730 = .ok (.invokevirtual 105, 3) := by decide +kernel
theorem dL_law_733 : decode cL_law 733 = .ok (.pop, 1) := by decide +kernel
theorem dL_law_734 : decode cL_law 734 = .ok (.goto 273, 3) := by decide +kernel
theorem dL_law_737 : decode cL_law 737 = .ok (.aload_n 1, 1) := by decide +kernel
theorem dL_law_738 : decode cL_law 738 = .ok (.aload_n 0, 1) := by decide +kernel
theorem dL_law_739 : decode cL_law 739 = .ok (.iload_n 3, 1) := by decide +kernel
theorem dL_law_740 : decode cL_law 740 = .ok (.iconst 1, 1) := by decide +kernel
theorem dL_law_741 : decode cL_law 741 = .ok (.iadd, 1) := by decide +kernel
theorem dL_law_742 : decode cL_law 742 = .ok (.iaload, 1) := by decide +kernel
theorem dL_law_743 : decode cL_law 743 = .ok (.aload_n 0, 1) := by decide +kernel
theorem dL_law_744 : decode cL_law 744 = .ok (.iload_n 3, 1) := by decide +kernel
theorem dL_law_745 : decode cL_law 745 = .ok (.iconst 2, 1) := by decide +kernel
theorem dL_law_746 : decode cL_law 746 = .ok (.iadd, 1) := by decide +kernel
theorem dL_law_747 : decode cL_law 747 = .ok (.iaload, 1) := by decide +kernel
theorem dL_law_748 : decode cL_law 748 = .ok (.invokevirtual 106, 3) := by decide +kernel
theorem dL_law_751 : decode cL_law 751 = .ok (.pop, 1) := by decide +kernel
theorem dL_law_752 : decode cL_law 752 = .ok (.aload_n 2, 1) := by decide +kernel
theorem dL_law_753 : decode cL_law 753 = .ok (.aload_n 0, 1) := by decide +kernel
theorem dL_law_754 : decode cL_law 754 = .ok (.iload_n 3, 1) := by decide +kernel
theorem dL_law_755 : decode cL_law 755 = .ok (.iconst 1, 1) := by decide +kernel
theorem dL_law_756 : decode cL_law 756 = .ok (.iadd, 1) := by decide +kernel
theorem dL_law_757 : decode cL_law 757 = .ok (.iaload, 1) := by decide +kernel
theorem dL_law_758 : decode cL_law 758 = .ok (.aload_n 0, 1) := by decide +kernel
theorem dL_law_759 : decode cL_law 759 = .ok (.iload_n 3, 1) := by decide +kernel
theorem dL_law_760 : decode cL_law 760 = .ok (.iconst 2, 1) := by decide +kernel
theorem dL_law_761 : decode cL_law 761 = .ok (.iadd, 1) := by decide +kernel
theorem dL_law_762 : decode cL_law 762 = .ok (.iaload, 1) := by decide +kernel
theorem dL_law_763 : decode cL_law 763 = .ok (.invokevirtual 109, 3) := by decide +kernel
theorem dL_law_766 : decode cL_law 766 = .ok (.pop, 1) := by decide +kernel
theorem dL_law_767 : decode cL_law 767 = .ok (.goto 240, 3) := by decide +kernel
theorem dL_law_770 : decode cL_law 770 = .ok (.aload_n 1, 1) := by decide +kernel
theorem dL_law_771 : decode cL_law 771 = .ok (.invokevirtual 110, 3) := by decide +kernel
theorem dL_law_774 : decode cL_law 774 = .ok (.pop, 1) := by decide +kernel
theorem dL_law_775 : decode cL_law 775 = .ok (.aload_n 2, 1) := by decide +kernel
theorem dL_law_776 : decode cL_law 776 = .ok (.invokevirtual 113, 3) := by decide +kernel
theorem dL_law_779 : decode cL_law 779 = .ok (.pop, 1) := by decide +kernel
theorem dL_law_780 : decode cL_law 780 = .ok (.goto 227, 3) := by decide +kernel
theorem dL_law_783 : decode cL_law 783 = .ok (.aload_n 1, 1) := by decide +kernel
theorem dL_law_784 : decode cL_law 784 = .ok (.aload_n 0, 1) := by decide +kernel
theorem dL_law_785 : decode cL_law 785 = .ok (.iload_n 3, 1) := by decide +kernel
theorem dL_law_786 : decode cL_law 786 = .ok (.iconst 1, 1) := by decide +kernel
theorem dL_law_787 : decode cL_law 787 = .ok (.iadd, 1) := by decide +kernel
theorem dL_law_788 : decode cL_law 788 = .ok (.iaload, 1) := by decide +kernel
theorem dL_law_789 : decode cL_law 789 = .ok (.invokevirtual 114, 3) := by decide +kernel
theorem dL_law_792 : decode cL_law 792 = .ok (.pop, 1) := by decide +kernel
theorem dL_law_793 : decode cL_law 793 = .ok (.aload_n 2, 1) := by decide +kernel
theorem dL_law_794 : decode cL_law 794 = .ok (.aload_n 0, 1) := by decide +kernel
theorem dL_law_795 : decode cL_law 795 = .ok (.iload_n 3, 1) := by decide +kernel
theorem dL_law_796 : decode cL_law 796 = .ok (.iconst 1, 1) := by decide +kernel
theorem dL_law_797 : decode cL_law 797 = .ok (.iadd, 1) := by decide +kernel
theorem dL_law_798 : decode cL_law 798 = .ok (.iaload, 1) := by decide +kernel
theorem dL_law_799 : decode cL_law 799 = .ok (.invokevirtual 117, 3) := by decide +kernel
theorem dL_law_802 : decode cL_law 802 = .ok (.pop, 1) := by decide +kernel
theorem dL_law_803 : decode cL_law 803 = .ok (.goto 204, 3) := by decide +kernel
theorem dL_law_806 : decode cL_law 806 = .ok (.aload_n 1, 1) := by decide +kernel
theorem dL_law_807 : decode cL_law 807 = .ok (.aload_n 0, 1) := by decide +kernel
theorem dL_law_808 : decode cL_law 808 = .ok (.iload_n 3, 1) := by decide +kernel
theorem dL_law_809 : decode cL_law 809 = .ok (.iconst 1, 1) := by decide +kernel
theorem dL_law_810 : decode cL_law 810 = .ok (.iadd, 1) := by decide +kernel
theorem dL_law_811 : decode cL_law 811 = .ok (.iaload, 1) := by decide +kernel
theorem dL_law_812 : decode cL_law 812 = .ok (.aload_n 0, 1) := by decide +kernel
theorem dL_law_813 : decode cL_law 813 = .ok (.iload_n 3, 1) := by decide +kernel
theorem dL_law_814 : decode cL_law 814 = .ok (.iconst 2, 1) := by decide +kernel
theorem dL_law_815 : decode cL_law 815 = .ok (.iadd, 1) := by decide +kernel
theorem dL_law_816 : decode cL_law 816 = .ok (.iaload, 1) := by decide +kernel
theorem dL_law_817 : decode cL_law 817 = .ok (.aload_n 0, 1) := by decide +kernel
theorem dL_law_818 : decode cL_law 818 = .ok (.iload_n 3, 1) := by decide +kernel
theorem dL_law_819 : decode cL_law 819 = .ok (.iconst 3, 1) := by decide +kernel
theorem dL_law_820 : decode cL_law 820 = .ok (.iadd, 1) := by decide +kernel
theorem dL_law_821 : decode cL_law 821 = .ok (.iaload, 1) := by decide +kernel
theorem dL_law_822 : decode cL_law 822 = .ok (.invokevirtual 118, 3) := by decide +kernel
theorem dL_law_825 : decode cL_law 825 = .ok (.pop, 1) := by decide +kernel
theorem dL_law_826 : decode cL_law 826 = .ok (.aload_n 2, 1) := by decide +kernel
theorem dL_law_827 : decode cL_law 827 = .ok (.aload_n 0, 1) := by decide +kernel
theorem dL_law_828 : decode cL_law 828 = .ok (.iload_n 3, 1) := by decide +kernel
theorem dL_law_829 : decode cL_law 829 = .ok (.iconst 1, 1) := by decide +kernel
theorem dL_law_830 : decode cL_law 830 = .ok (.iadd, 1) := by decide +kernel
theorem dL_law_831 : decode cL_law 831 = .ok (.iaload, 1) := by decide +kernel
theorem dL_law_832 : decode cL_law 832 = .ok (.aload_n 0, 1) := by decide +kernel
theorem dL_law_833 : decode cL_law 833 = .ok (.iload_n 3, 1) := by decide +kernel
theorem dL_law_834 : decode cL_law 834 = .ok (.iconst 2, 1) := by decide +kernel
theorem dL_law_835 : decode cL_law 835 = .ok (.iadd, 1) := by decide +kernel
theorem dL_law_836 : decode cL_law 836 = .ok (.iaload, 1) := by decide +kernel
theorem dL_law_837 : decode cL_law 837 = .ok (.aload_n 0, 1) := by decide +kernel
theorem dL_law_838 : decode cL_law 838 = .ok (.iload_n 3, 1) := by decide +kernel
theorem dL_law_839 : decode cL_law 839 = .ok (.iconst 3, 1) := by decide +kernel
theorem dL_law_840 : decode cL_law 840 = .ok (.iadd, 1) := by decide +kernel
theorem dL_law_841 : decode cL_law 841 = .ok (.iaload, 1) := by decide +kernel
theorem dL_law_842 : decode cL_law 842 = .ok (.invokevirtual 121, 3) := by decide +kernel
theorem dL_law_845 : decode cL_law 845 = .ok (.pop, 1) := by decide +kernel
theorem dL_law_846 : decode cL_law 846 = .ok (.goto 161, 3) := by decide +kernel
theorem dL_law_849 : decode cL_law 849 = .ok (.aload_n 1, 1) := by decide +kernel
theorem dL_law_850 : decode cL_law 850 = .ok (.aload_n 0, 1) := by decide +kernel
theorem dL_law_851 : decode cL_law 851 = .ok (.iload_n 3, 1) := by decide +kernel
theorem dL_law_852 : decode cL_law 852 = .ok (.iconst 1, 1) := by decide +kernel
theorem dL_law_853 : decode cL_law 853 = .ok (.iadd, 1) := by decide +kernel
theorem dL_law_854 : decode cL_law 854 = .ok (.iaload, 1) := by decide +kernel
theorem dL_law_855 : decode cL_law 855 = .ok (.invokevirtual 122, 3) := by decide +kernel
theorem dL_law_858 : decode cL_law 858 = .ok (.pop, 1) := by decide +kernel
theorem dL_law_859 : decode cL_law 859 = .ok (.aload_n 2, 1) := by decide +kernel
theorem dL_law_860 : decode cL_law 860 = .ok (.aload_n 0, 1) := by decide +kernel
theorem dL_law_861 : decode cL_law 861 = .ok (.iload_n 3, 1) := by decide +kernel
theorem dL_law_862 : decode cL_law 862 = .ok (.iconst 1, 1) := by decide +kernel
theorem dL_law_863 : decode cL_law 863 = .ok (.iadd, 1) := by decide +kernel
theorem dL_law_864 : decode cL_law 864 = .ok (.iaload, 1) := by decide +kernel
theorem dL_law_865 : decode cL_law 865 = .ok (.invokevirtual 126, 3) := by decide +kernel
theorem dL_law_868 : decode cL_law 868 = .ok (.pop, 1) := by decide +kernel
theorem dL_law_869 : decode cL_law 869 = .ok (.goto 138, 3) := by decide +kernel
theorem dL_law_872 : decode cL_law 872 = .ok (.aload_n 1, 1) := by decide +kernel
theorem dL_law_873 : decode cL_law 873 = .ok (.aload_n 0, 1) := by decide +kernel
theorem dL_law_874 : decode cL_law 874 = .ok (.iload_n 3, 1) := by decide +kernel
theorem dL_law_875 : decode cL_law 875 = .ok (.iconst 1, 1) := by decide +kernel
theorem dL_law_876 : decode cL_law 876 = .ok (.iadd, 1) := by decide +kernel
theorem dL_law_877 : decode cL_law 877 = .ok (.iaload, 1) := by decide +kernel
theorem dL_law_878 : decode cL_law 878 = .ok (.invokevirtual 127, 3) := by decide +kernel
theorem dL_law_881 : decode cL_law 881 = .ok (.aload_n 2, 1) := by decide +kernel
theorem dL_law_882 : decode cL_law 882 = .ok (.aload_n 0, 1) := by decide +kernel
theorem dL_law_883 : decode cL_law 883 = .ok (.iload_n 3, 1) := by decide +kernel
theorem dL_law_884 : decode cL_law 884 = .ok (.iconst 1, 1) := by decide +kernel
theorem dL_law_885 : decode cL_law 885 = .ok (.iadd, 1) := by decide +kernel
theorem dL_law_886 : decode cL_law 886 = .ok (.iaload, 1) := by decide +kernel
theorem dL_law_887 : decode cL_law 887 = .ok (.invokevirtual 130, 3) := by decide +kernel
theorem dL_law_890 : decode cL_law 890 = .ok (.if_icmp .eq 117, 3) := by decide +kernel
theorem dL_law_893 : decode cL_law 893 = .ok (.iconst 0, 1) := by decide +kernel
theorem dL_law_894 : decode cL_law 894 = .ok (.ireturn, 1) := by decide +kernel
theorem dL_law_895 : decode cL_law 895 = .ok (.aload_n 1, 1) := by decide +kernel
theorem dL_law_896 : decode cL_law 896 = .ok (.aload_n 0, 1) := by decide +kernel
theorem dL_law_897 : decode cL_law 897 = .ok (.iload_n 3, 1) := by decide +kernel
theorem dL_law_898 : decode cL_law 898 = .ok (.iconst 1, 1) := by decide +kernel
theorem dL_law_899 : decode cL_law 899 = .ok (.iadd, 1) := by decide +kernel
theorem dL_law_900 : decode cL_law 900 = .ok (.iaload, 1) := by decide +kernel
theorem dL_law_901 : decode cL_law 901 = .ok (.aload_n 0, 1) := by decide +kernel
theorem dL_law_902 : decode cL_law 902 = .ok (.iload_n 3, 1) := by decide +kernel
theorem dL_law_903 : decode cL_law 903 = .ok (.iconst 2, 1) := by decide +kernel
theorem dL_law_904 : decode cL_law 904 = .ok (.iadd, 1) := by decide +kernel
theorem dL_law_905 : decode cL_law 905 = .ok (.iaload, 1) := by decide +kernel
theorem dL_law_906 : decode cL_law 906 = .ok (.aload_n 0, 1) := by decide +kernel
theorem dL_law_907 : decode cL_law 907 = .ok (.iload_n 3, 1) := by decide +kernel
theorem dL_law_908 : decode cL_law 908 = .ok (.iconst 3, 1) := by decide +kernel
theorem dL_law_909 : decode cL_law 909 = .ok (.iadd, 1) := by decide +kernel
theorem dL_law_910 : decode cL_law 910 = .ok (.iaload, 1) := by decide +kernel
theorem dL_law_911 : decode cL_law 911 = .ok (.invokevirtual 131, 3) := by decide +kernel
theorem dL_law_914 : decode cL_law 914 = .ok (.pop2, 1) := by decide +kernel
theorem dL_law_915 : decode cL_law 915 = .ok (.aload_n 2, 1) := by decide +kernel
theorem dL_law_916 : decode cL_law 916 = .ok (.aload_n 0, 1) := by decide +kernel
theorem dL_law_917 : decode cL_law 917 = .ok (.iload_n 3, 1) := by decide +kernel
theorem dL_law_918 : decode cL_law 918 = .ok (.iconst 1, 1) := by decide +kernel
theorem dL_law_919 : decode cL_law 919 = .ok (.iadd, 1) := by decide +kernel
theorem dL_law_920 : decode cL_law 920 = .ok (.iaload, 1) := by decide +kernel
theorem dL_law_921 : decode cL_law 921 = .ok (.aload_n 0, 1) := by decide +kernel
theorem dL_law_922 : decode cL_law 922 = .ok (.iload_n 3, 1) := by decide +kernel
theorem dL_law_923 : decode cL_law 923 = .ok (.iconst 2, 1) := by decide +kernel
theorem dL_law_924 : decode cL_law 924 = .ok (.iadd, 1) := by decide +kernel
theorem dL_law_925 : decode cL_law 925 = .ok (.iaload, 1) := by decide +kernel
theorem dL_law_926 : decode cL_law 926 = .ok (.aload_n 0, 1) := by decide +kernel
theorem dL_law_927 : decode cL_law 927 = .ok (.iload_n 3, 1) := by decide +kernel
theorem dL_law_928 : decode cL_law 928 = .ok (.iconst 3, 1) := by decide +kernel
theorem dL_law_929 : decode cL_law 929 = .ok (.iadd, 1) := by decide +kernel
theorem dL_law_930 : decode cL_law 930 = .ok (.iaload, 1) := by decide +kernel
theorem dL_law_931 : decode cL_law 931 = .ok (.invokevirtual 135, 3) := by decide +kernel
theorem dL_law_934 : decode cL_law 934 = .ok (.pop2, 1) := by decide +kernel
theorem dL_law_935 : decode cL_law 935 = .ok (.goto 72, 3) := by decide +kernel
theorem dL_law_938 : decode cL_law 938 = .ok (.aload_n 1, 1) := by decide +kernel
theorem dL_law_939 : decode cL_law 939 = .ok (.aload_n 0, 1) := by decide +kernel
theorem dL_law_940 : decode cL_law 940 = .ok (.iload_n 3, 1) := by decide +kernel
theorem dL_law_941 : decode cL_law 941 = .ok (.iconst 1, 1) := by decide +kernel
theorem dL_law_942 : decode cL_law 942 = .ok (.iadd, 1) := by decide +kernel
theorem dL_law_943 : decode cL_law 943 = .ok (.iaload, 1) := by decide +kernel
theorem dL_law_944 : decode cL_law 944 = .ok (.invokevirtual 136, 3) := by decide +kernel
theorem dL_law_947 : decode cL_law 947 = .ok (.pop, 1) := by decide +kernel
theorem dL_law_948 : decode cL_law 948 = .ok (.aload_n 2, 1) := by decide +kernel
theorem dL_law_949 : decode cL_law 949 = .ok (.aload_n 0, 1) := by decide +kernel
theorem dL_law_950 : decode cL_law 950 = .ok (.iload_n 3, 1) := by decide +kernel
theorem dL_law_951 : decode cL_law 951 = .ok (.iconst 1, 1) := by decide +kernel
theorem dL_law_952 : decode cL_law 952 = .ok (.iadd, 1) := by decide +kernel
theorem dL_law_953 : decode cL_law 953 = .ok (.iaload, 1) := by decide +kernel
theorem dL_law_954 : decode cL_law 954 = .ok (.invokevirtual 139, 3) := by decide +kernel
theorem dL_law_957 : decode cL_law 957 = .ok (.pop, 1) := by decide +kernel
theorem dL_law_958 : decode cL_law 958 = .ok (.goto 49, 3) := by decide +kernel
theorem dL_law_961 : decode cL_law 961 = .ok (.aload_n 1, 1) := by decide +kernel
theorem dL_law_962 : decode cL_law 962 = .ok (.aload_n 0, 1) := by decide +kernel
theorem dL_law_963 : decode cL_law 963 = .ok (.iload_n 3, 1) := by decide +kernel
theorem dL_law_964 : decode cL_law 964 = .ok (.iconst 1, 1) := by decide +kernel
theorem dL_law_965 : decode cL_law 965 = .ok (.iadd, 1) := by decide +kernel
theorem dL_law_966 : decode cL_law 966 = .ok (.iaload, 1) := by decide +kernel
theorem dL_law_967 : decode cL_law 967 = .ok (.invokevirtual 140, 3) := by decide +kernel
theorem dL_law_970 : decode cL_law 970 = .ok (.pop, 1) := by decide +kernel
theorem dL_law_971 : decode cL_law 971 = .ok (.aload_n 2, 1) := by decide +kernel
theorem dL_law_972 : decode cL_law 972 = .ok (.aload_n 0, 1) := by decide +kernel
theorem dL_law_973 : decode cL_law 973 = .ok (.iload_n 3, 1) := by decide +kernel
theorem dL_law_974 : decode cL_law 974 = .ok (.iconst 1, 1) := by decide +kernel
theorem dL_law_975 : decode cL_law 975 = .ok (.iadd, 1) := by decide +kernel
theorem dL_law_976 : decode cL_law 976 = .ok (.iaload, 1) := by decide +kernel
theorem dL_law_977 : decode cL_law 977 = .ok (.invokevirtual 143, 3) := by decide +kernel
theorem dL_law_980 : decode cL_law 980 = .ok (.pop, 1) := by decide +kernel
theorem dL_law_981 : decode cL_law 981 = .ok (.goto 26, 3) := by decide +kernel
theorem dL_law_984 : decode cL_law 984 = .ok (.aload_n 1, 1) := by decide +kernel
theorem dL_law_985 : decode cL_law 985 = .ok (.aload_n 0, 1) := by decide +kernel
theorem dL_law_986 : decode cL_law 986 = .ok (.iload_n 3, 1) := by decide +kernel
theorem dL_law_987 : decode cL_law 987 = .ok (.iconst 1, 1) := by decide +kernel
theorem dL_law_988 : decode cL_law 988 = .ok (.iadd, 1) := by decide +kernel
theorem dL_law_989 : decode cL_law 989 = .ok (.iaload, 1) := by decide +kernel
theorem dL_law_990 : decode cL_law 990 = .ok (.invokevirtual 144, 3) := by decide +kernel
theorem dL_law_993 : decode cL_law 993 = .ok (.pop, 1) := by decide +kernel
theorem dL_law_994 : decode cL_law 994 = .ok (.aload_n 2, 1) := by decide +kernel
theorem dL_law_995 : decode cL_law 995 = .ok (.aload_n 0, 1) := by decide +kernel
theorem dL_law_996 : decode cL_law 996 = .ok (.iload_n 3, 1) := by decide +kernel
theorem dL_law_997 : decode cL_law 997 = .ok (.iconst 1, 1) := by decide +kernel
theorem dL_law_998 : decode cL_law 998 = .ok (.iadd, 1) := by decide +kernel
theorem dL_law_999 : decode cL_law 999 = .ok (.iaload, 1) := by decide +kernel
theorem dL_law_1000 : decode cL_law 1000 = .ok (.invokevirtual 147, 3) := by decide +kernel
theorem dL_law_1003 : decode cL_law 1003 = .ok (.pop, 1) := by decide +kernel
theorem dL_law_1004 : decode cL_law 1004 = .ok (.goto 3, 3) := by decide +kernel
theorem dL_law_1007 : decode cL_law 1007 = .ok (.iinc 3 6, 3) := by decide +kernel
theorem dL_law_1010 : decode cL_law 1010 = .ok (.goto (-992), 3) := by decide +kernel
theorem dL_law_1013 : decode cL_law 1013 = .ok (.iconst 1, 1) := by decide +kernel
theorem dL_law_1014 : decode cL_law 1014 = .ok (.ireturn, 1) := by decide +kernel
