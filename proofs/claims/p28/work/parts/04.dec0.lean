theorem dX0_init_0 : decode cX0_init 0 = .ok (.aload_n 0, 1) := by decide +kernel
theorem dX0_init_1 : decode cX0_init 1 = .ok (.invokespecial 3, 3) := by decide +kernel
theorem dX0_init_4 : decode cX0_init 4 = .ok (.aload_n 0, 1) := by decide +kernel
theorem dX0_init_5 : decode cX0_init 5 = .ok (.new 9, 3) := by decide +kernel
theorem dX0_init_8 : decode cX0_init 8 = .ok (.dup, 1) := by decide +kernel
theorem dX0_init_9 : decode cX0_init 9 = .ok (.bipush 41, 2) := by decide +kernel
theorem dX0_init_11 : decode cX0_init 11 = .ok (.invokespecial 11, 3) := by decide +kernel
theorem dX0_init_14 : decode cX0_init 14 = .ok (.putfield 14, 3) := by decide +kernel
theorem dX0_init_17 : decode cX0_init 17 = .ok (.aload_n 0, 1) := by decide +kernel
theorem dX0_init_18 : decode cX0_init 18 = .ok (.iconst 0, 1) := by decide +kernel
theorem dX0_init_19 : decode cX0_init 19 = .ok (.putfield 18, 3) := by decide +kernel
theorem dX0_init_22 : decode cX0_init 22 = .ok (.aload_n 0, 1) := by decide +kernel
theorem dX0_init_23 : decode cX0_init 23 = .ok (.iconst 0, 1) := by decide +kernel
theorem dX0_init_24 : decode cX0_init 24 = .ok (.putfield 22, 3) := by decide +kernel
theorem dX0_init_27 : decode cX0_init 27 = .ok (.aload_n 0, 1) := by decide +kernel
theorem dX0_init_28 : decode cX0_init 28 = .ok (.iconst 0, 1) := by decide +kernel
theorem dX0_init_29 : decode cX0_init 29 = .ok (.putfield 25, 3) := by decide +kernel
theorem dX0_init_32 : decode cX0_init 32 = .ok (.return_, 1) := by decide +kernel
theorem dX0_forget_0 : decode cX0_forget 0 = .ok (.aload_n 0, 1) := by decide +kernel
theorem dX0_forget_1 : decode cX0_forget 1 = .ok (.iconst 0, 1) := by decide +kernel
theorem dX0_forget_2 : decode cX0_forget 2 = .ok (.putfield 18, 3) := by decide +kernel
theorem dX0_forget_5 : decode cX0_forget 5 = .ok (.aload_n 0, 1) := by decide +kernel
theorem dX0_forget_6 : decode cX0_forget 6 = .ok (.iconst 0, 1) := by decide +kernel
theorem dX0_forget_7 : decode cX0_forget 7 = .ok (.putfield 22, 3) := by decide +kernel
theorem dX0_forget_10 : decode cX0_forget 10 = .ok (.aload_n 0, 1) := by decide +kernel
theorem dX0_forget_11 : decode cX0_forget 11 = .ok (.iconst 0, 1) := by decide +kernel
theorem dX0_forget_12 : decode cX0_forget 12 = .ok (.putfield 25, 3) := by decide +kernel
theorem dX0_forget_15 : decode cX0_forget 15 = .ok (.aload_n 0, 1) := by decide +kernel
theorem dX0_forget_16 : decode cX0_forget 16 = .ok (.getfield 14, 3) := by decide +kernel
theorem dX0_forget_19 : decode cX0_forget 19 = .ok (.iconst 0, 1) := by decide +kernel
theorem dX0_forget_20 : decode cX0_forget 20 = .ok (.aload_n 1, 1) := by decide +kernel
theorem dX0_forget_21 : decode cX0_forget 21 = .ok (.invokevirtual 28, 3) := by decide +kernel
theorem dX0_forget_24 : decode cX0_forget 24 = .ok (.return_, 1) := by decide +kernel
theorem dX0_add_0 : decode cX0_add 0 = .ok (.aload_n 0, 1) := by decide +kernel
theorem dX0_add_1 : decode cX0_add 1 = .ok (.iconst 0, 1) := by decide +kernel
theorem dX0_add_2 : decode cX0_add 2 = .ok (.putfield 25, 3) := by decide +kernel
theorem dX0_add_5 : decode cX0_add 5 = .ok (.aload_n 0, 1) := by decide +kernel
theorem dX0_add_6 : decode cX0_add 6 = .ok (.getfield 22, 3) := by decide +kernel
theorem dX0_add_9 : decode cX0_add 9 = .ok (.bipush 40, 2) := by decide +kernel
theorem dX0_add_11 : decode cX0_add 11 = .ok (.if_icmp .ge 16, 3) := by decide +kernel
theorem dX0_add_14 : decode cX0_add 14 = .ok (.aload_n 0, 1) := by decide +kernel
theorem dX0_add_15 : decode cX0_add 15 = .ok (.dup, 1) := by decide +kernel
theorem dX0_add_16 : decode cX0_add 16 = .ok (.getfield 22, 3) := by decide +kernel
theorem dX0_add_19 : decode cX0_add 19 = .ok (.iconst 1, 1) := by decide +kernel
theorem dX0_add_20 : decode cX0_add 20 = .ok (.iadd, 1) := by decide +kernel
theorem dX0_add_21 : decode cX0_add 21 = .ok (.putfield 22, 3) := by decide +kernel
theorem dX0_add_24 : decode cX0_add 24 = .ok (.goto 16, 3) := by decide +kernel
theorem dX0_add_27 : decode cX0_add 27 = .ok (.aload_n 0, 1) := by decide +kernel
theorem dX0_add_28 : decode cX0_add 28 = .ok (.aload_n 0, 1) := by decide +kernel
theorem dX0_add_29 : decode cX0_add 29 = .ok (.getfield 18, 3) := by decide +kernel
theorem dX0_add_32 : decode cX0_add 32 = .ok (.iconst 1, 1) := by decide +kernel
theorem dX0_add_33 : decode cX0_add 33 = .ok (.iadd, 1) := by decide +kernel
theorem dX0_add_34 : decode cX0_add 34 = .ok (.bipush 41, 2) := by decide +kernel
theorem dX0_add_36 : decode cX0_add 36 = .ok (.irem, 1) := by decide +kernel
theorem dX0_add_37 : decode cX0_add 37 = .ok (.putfield 18, 3) := by decide +kernel
theorem dX0_add_40 : decode cX0_add 40 = .ok (.aload_n 0, 1) := by decide +kernel
theorem dX0_add_41 : decode cX0_add 41 = .ok (.getfield 14, 3) := by decide +kernel
theorem dX0_add_44 : decode cX0_add 44 = .ok (.aload_n 0, 1) := by decide +kernel
theorem dX0_add_45 : decode cX0_add 45 = .ok (.getfield 18, 3) := by decide +kernel
theorem dX0_add_48 : decode cX0_add 48 = .ok (.aload_n 0, 1) := by decide +kernel
theorem dX0_add_49 : decode cX0_add 49 = .ok (.getfield 22, 3) := by decide +kernel
theorem dX0_add_52 : decode cX0_add 52 = .ok (.iadd, 1) := by decide +kernel
theorem dX0_add_53 : decode cX0_add 53 = .ok (.bipush 41, 2) := by decide +kernel
theorem dX0_add_55 : decode cX0_add 55 = .ok (.irem, 1) := by decide +kernel
theorem dX0_add_56 : decode cX0_add 56 = .ok (.aload_n 1, 1) := by decide +kernel
theorem dX0_add_57 : decode cX0_add 57 = .ok (.invokevirtual 28, 3) := by decide +kernel
theorem dX0_add_60 : decode cX0_add 60 = .ok (.return_, 1) := by decide +kernel
theorem dX0_takeBack_0 : decode cX0_takeBack 0 = .ok (.aload_n 0, 1) := by decide +kernel
theorem dX0_takeBack_1 : decode cX0_takeBack 1 = .ok (.getfield 22, 3) := by decide +kernel
theorem dX0_takeBack_4 : decode cX0_takeBack 4 = .ok (.ifCond .ne 5, 3) := by decide +kernel
theorem dX0_takeBack_7 : decode cX0_takeBack 7 = .ok (.iconst 0, 1) := by decide +kernel
theorem dX0_takeBack_8 : decode cX0_takeBack 8 = .ok (.ireturn, 1) := by decide +kernel
theorem dX0_takeBack_9 : decode cX0_takeBack 9 = .ok (.aload_n 0, 1) := by decide +kernel
theorem dX0_takeBack_10 : decode cX0_takeBack 10 = .ok (.dup, 1) := by decide +kernel
theorem dX0_takeBack_11 : decode cX0_takeBack 11 = .ok (.getfield 22, 3) := by decide +kernel
theorem dX0_takeBack_14 : decode cX0_takeBack 14 = .ok (.iconst 1, 1) := by decide +kernel
theorem dX0_takeBack_15 : decode cX0_takeBack 15 = .ok (.isub, 1) := by decide +kernel
theorem dX0_takeBack_16 : decode cX0_takeBack 16 = .ok (.putfield 22, 3) := by decide +kernel
theorem dX0_takeBack_19 : decode cX0_takeBack 19 = .ok (.aload_n 0, 1) := by decide +kernel
theorem dX0_takeBack_20 : decode cX0_takeBack 20 = .ok (.dup, 1) := by decide +kernel
theorem dX0_takeBack_21 : decode cX0_takeBack 21 = .ok (.getfield 25, 3) := by decide +kernel
theorem dX0_takeBack_24 : decode cX0_takeBack 24 = .ok (.iconst 1, 1) := by decide +kernel
theorem dX0_takeBack_25 : decode cX0_takeBack 25 = .ok (.iadd, 1) := by decide +kernel
theorem dX0_takeBack_26 : decode cX0_takeBack 26 = .ok (.putfield 25, 3) := by decide +kernel
theorem dX0_takeBack_29 : decode cX0_takeBack 29 = .ok (.aload_n 0, 1) := by decide +kernel
theorem dX0_takeBack_30 : decode cX0_takeBack 30 = .ok (.getfield 14, 3) := by decide +kernel
theorem dX0_takeBack_33 : decode cX0_takeBack 33 = .ok (.aload_n 0, 1) := by decide +kernel
theorem dX0_takeBack_34 : decode cX0_takeBack 34 = .ok (.getfield 18, 3) := by decide +kernel
theorem dX0_takeBack_37 : decode cX0_takeBack 37 = .ok (.aload_n 0, 1) := by decide +kernel
theorem dX0_takeBack_38 : decode cX0_takeBack 38 = .ok (.getfield 22, 3) := by decide +kernel
theorem dX0_takeBack_41 : decode cX0_takeBack 41 = .ok (.iadd, 1) := by decide +kernel
theorem dX0_takeBack_42 : decode cX0_takeBack 42 = .ok (.bipush 41, 2) := by decide +kernel
theorem dX0_takeBack_44 : decode cX0_takeBack 44 = .ok (.irem, 1) := by decide +kernel
theorem dX0_takeBack_45 : decode cX0_takeBack 45 = .ok (.aload_n 1, 1) := by decide +kernel
theorem dX0_takeBack_46 : decode cX0_takeBack 46 = .ok (.invokevirtual 32, 3) := by decide +kernel
theorem dX0_takeBack_49 : decode cX0_takeBack 49 = .ok (.ireturn, 1) := by decide +kernel
theorem dX0_doAgain_0 : decode cX0_doAgain 0 = .ok (.aload_n 0, 1) := by decide +kernel
theorem dX0_doAgain_1 : decode cX0_doAgain 1 = .ok (.getfield 25, 3) := by decide +kernel
theorem dX0_doAgain_4 : decode cX0_doAgain 4 = .ok (.ifCond .ne 5, 3) := by decide +kernel
theorem dX0_doAgain_7 : decode cX0_doAgain 7 = .ok (.iconst 0, 1) := by decide +kernel
theorem dX0_doAgain_8 : decode cX0_doAgain 8 = .ok (.ireturn, 1) := by decide +kernel
theorem dX0_doAgain_9 : decode cX0_doAgain 9 = .ok (.aload_n 0, 1) := by decide +kernel
theorem dX0_doAgain_10 : decode cX0_doAgain 10 = .ok (.dup, 1) := by decide +kernel
theorem dX0_doAgain_11 : decode cX0_doAgain 11 = .ok (.getfield 22, 3) := by decide +kernel
theorem dX0_doAgain_14 : decode cX0_doAgain 14 = .ok (.iconst 1, 1) := by decide +kernel
theorem dX0_doAgain_15 : decode cX0_doAgain 15 = .ok (.iadd, 1) := by decide +kernel
theorem dX0_doAgain_16 : decode cX0_doAgain 16 = .ok (.putfield 22, 3) := by decide +kernel
theorem dX0_doAgain_19 : decode cX0_doAgain 19 = .ok (.aload_n 0, 1) := by decide +kernel
theorem dX0_doAgain_20 : decode cX0_doAgain 20 = .ok (.dup, 1) := by decide +kernel
theorem dX0_doAgain_21 : decode cX0_doAgain 21 = .ok (.getfield 25, 3) := by decide +kernel
theorem dX0_doAgain_24 : decode cX0_doAgain 24 = .ok (.iconst 1, 1) := by decide +kernel
theorem dX0_doAgain_25 : decode cX0_doAgain 25 = .ok (.isub, 1) := by decide +kernel
theorem dX0_doAgain_26 : decode cX0_doAgain 26 = .ok (.putfield 25, 3) := by decide +kernel
theorem dX0_doAgain_29 : decode cX0_doAgain 29 = .ok (.aload_n 0, 1) := by decide +kernel
theorem dX0_doAgain_30 : decode cX0_doAgain 30 = .ok (.getfield 14, 3) := by decide +kernel
theorem dX0_doAgain_33 : decode cX0_doAgain 33 = .ok (.aload_n 0, 1) := by decide +kernel
theorem dX0_doAgain_34 : decode cX0_doAgain 34 = .ok (.getfield 18, 3) := by decide +kernel
theorem dX0_doAgain_37 : decode cX0_doAgain 37 = .ok (.aload_n 0, 1) := by decide +kernel
theorem dX0_doAgain_38 : decode cX0_doAgain 38 = .ok (.getfield 22, 3) := by decide +kernel
theorem dX0_doAgain_41 : decode cX0_doAgain 41 = .ok (.iadd, 1) := by decide +kernel
theorem dX0_doAgain_42 : decode cX0_doAgain 42 = .ok (.bipush 41, 2) := by decide +kernel
theorem dX0_doAgain_44 : decode cX0_doAgain 44 = .ok (.irem, 1) := by decide +kernel
theorem dX0_doAgain_45 : decode cX0_doAgain 45 = .ok (.aload_n 1, 1) := by decide +kernel
theorem dX0_doAgain_46 : decode cX0_doAgain 46 = .ok (.invokevirtual 32, 3) := by decide +kernel
theorem dX0_doAgain_49 : decode cX0_doAgain 49 = .ok (.ireturn, 1) := by decide +kernel
theorem dX1_init_0 : decode cX1_init 0 = .ok (.aload_n 0, 1) := by decide +kernel
theorem dX1_init_1 : decode cX1_init 1 = .ok (.invokespecial 3, 3) := by decide +kernel
theorem dX1_init_4 : decode cX1_init 4 = .ok (.aload_n 0, 1) := by decide +kernel
theorem dX1_init_5 : decode cX1_init 5 = .ok (.bipush 10, 2) := by decide +kernel
theorem dX1_init_7 : decode cX1_init 7 = .ok (.newarray .int, 2) := by decide +kernel
theorem dX1_init_9 : decode cX1_init 9 = .ok (.putfield 11, 3) := by decide +kernel
theorem dX1_init_12 : decode cX1_init 12 = .ok (.aload_n 0, 1) := by decide +kernel
theorem dX1_init_13 : decode cX1_init 13 = .ok (.bipush 10, 2) := by decide +kernel
theorem dX1_init_15 : decode cX1_init 15 = .ok (.newarray .int, 2) := by decide +kernel
theorem dX1_init_17 : decode cX1_init 17 = .ok (.putfield 15, 3) := by decide +kernel
theorem dX1_init_20 : decode cX1_init 20 = .ok (.aload_n 0, 1) := by decide +kernel
theorem dX1_init_21 : decode cX1_init 21 = .ok (.bipush 10, 2) := by decide +kernel
theorem dX1_init_23 : decode cX1_init 23 = .ok (.newarray .int, 2) := by decide +kernel
theorem dX1_init_25 : decode cX1_init 25 = .ok (.putfield 18, 3) := by decide +kernel
theorem dX1_init_28 : decode cX1_init 28 = .ok (.aload_n 0, 1) := by decide +kernel
theorem dX1_init_29 : decode cX1_init 29 = .ok (.bipush 10, 2) := by decide +kernel
theorem dX1_init_31 : decode cX1_init 31 = .ok (.newarray .int, 2) := by decide +kernel
theorem dX1_init_33 : decode cX1_init 33 = .ok (.putfield 21, 3) := by decide +kernel
theorem dX1_init_36 : decode cX1_init 36 = .ok (.aload_n 0, 1) := by decide +kernel
theorem dX1_init_37 : decode cX1_init 37 = .ok (.bipush 11, 2) := by decide +kernel
theorem dX1_init_39 : decode cX1_init 39 = .ok (.newarray .int, 2) := by decide +kernel
theorem dX1_init_41 : decode cX1_init 41 = .ok (.putfield 24, 3) := by decide +kernel
theorem dX1_init_44 : decode cX1_init 44 = .ok (.return_, 1) := by decide +kernel
theorem dX1_clear_0 : decode cX1_clear 0 = .ok (.aload_n 0, 1) := by decide +kernel
theorem dX1_clear_1 : decode cX1_clear 1 = .ok (.getfield 15, 3) := by decide +kernel
theorem dX1_clear_4 : decode cX1_clear 4 = .ok (.iconst (-1), 1) := by decide +kernel
theorem dX1_clear_5 : decode cX1_clear 5 = .ok (.invokestatic 27, 3) := by decide +kernel
theorem dX1_clear_8 : decode cX1_clear 8 = .ok (.aload_n 0, 1) := by decide +kernel
theorem dX1_clear_9 : decode cX1_clear 9 = .ok (.getfield 18, 3) := by decide +kernel
theorem dX1_clear_12 : decode cX1_clear 12 = .ok (.iconst (-1), 1) := by decide +kernel
theorem dX1_clear_13 : decode cX1_clear 13 = .ok (.invokestatic 27, 3) := by decide +kernel
theorem dX1_clear_16 : decode cX1_clear 16 = .ok (.return_, 1) := by decide +kernel
theorem dX1_release_0 : decode cX1_release 0 = .ok (.aload_n 0, 1) := by decide +kernel
theorem dX1_release_1 : decode cX1_release 1 = .ok (.getfield 15, 3) := by decide +kernel
theorem dX1_release_4 : decode cX1_release 4 = .ok (.iload_n 1, 1) := by decide +kernel
theorem dX1_release_5 : decode cX1_release 5 = .ok (.iaload, 1) := by decide +kernel
theorem dX1_release_6 : decode cX1_release 6 = .ok (.istore_n 2, 1) := by decide +kernel
theorem dX1_release_7 : decode cX1_release 7 = .ok (.iload_n 2, 1) := by decide +kernel
theorem dX1_release_8 : decode cX1_release 8 = .ok (.iconst (-1), 1) := by decide +kernel
theorem dX1_release_9 : decode cX1_release 9 = .ok (.if_icmp .eq 17, 3) := by decide +kernel
theorem dX1_release_12 : decode cX1_release 12 = .ok (.aload_n 0, 1) := by decide +kernel
theorem dX1_release_13 : decode cX1_release 13 = .ok (.getfield 18, 3) := by decide +kernel
theorem dX1_release_16 : decode cX1_release 16 = .ok (.iload_n 2, 1) := by decide +kernel
theorem dX1_release_17 : decode cX1_release 17 = .ok (.iconst (-1), 1) := by decide +kernel
theorem dX1_release_18 : decode cX1_release 18 = .ok (.iastore, 1) := by decide +kernel
theorem dX1_release_19 : decode cX1_release 19 = .ok (.aload_n 0, 1) := by decide +kernel
theorem dX1_release_20 : decode cX1_release 20 = .ok (.getfield 15, 3) := by decide +kernel
theorem dX1_release_23 : decode cX1_release 23 = .ok (.iload_n 1, 1) := by decide +kernel
theorem dX1_release_24 : decode cX1_release 24 = .ok (.iconst (-1), 1) := by decide +kernel
theorem dX1_release_25 : decode cX1_release 25 = .ok (.iastore, 1) := by decide +kernel
theorem dX1_release_26 : decode cX1_release 26 = .ok (.return_, 1) := by decide +kernel
theorem dX1_assign_0 : decode cX1_assign 0 = .ok (.aload_n 0, 1) := by decide +kernel
theorem dX1_assign_1 : decode cX1_assign 1 = .ok (.getfield 15, 3) := by decide +kernel
theorem dX1_assign_4 : decode cX1_assign 4 = .ok (.iload_n 1, 1) := by decide +kernel
theorem dX1_assign_5 : decode cX1_assign 5 = .ok (.iload_n 2, 1) := by decide +kernel
theorem dX1_assign_6 : decode cX1_assign 6 = .ok (.iastore, 1) := by decide +kernel
theorem dX1_assign_7 : decode cX1_assign 7 = .ok (.aload_n 0, 1) := by decide +kernel
theorem dX1_assign_8 : decode cX1_assign 8 = .ok (.getfield 18, 3) := by decide +kernel
theorem dX1_assign_11 : decode cX1_assign 11 = .ok (.iload_n 2, 1) := by decide +kernel
theorem dX1_assign_12 : decode cX1_assign 12 = .ok (.iload_n 1, 1) := by decide +kernel
theorem dX1_assign_13 : decode cX1_assign 13 = .ok (.iastore, 1) := by decide +kernel
theorem dX1_assign_14 : decode cX1_assign 14 = .ok (.return_, 1) := by decide +kernel
theorem dX1_settle_0 : decode cX1_settle 0 = .ok (.iconst 0, 1) := by decide +kernel
theorem dX1_settle_1 : decode cX1_settle 1 = .ok (.istore_n 3, 1) := by decide +kernel
theorem dX1_settle_2 : decode cX1_settle 2 = .ok (.iconst 1, 1) := by decide +kernel
theorem dX1_settle_3 : decode cX1_settle 3 = .ok (.istore 4, 2) := by decide +kernel
theorem dX1_settle_5 : decode cX1_settle 5 = .ok (.aload_n 0, 1) := by decide +kernel
theorem dX1_settle_6 : decode cX1_settle 6 = .ok (.getfield 24, 3) := by decide +kernel
theorem dX1_settle_9 : decode cX1_settle 9 = .ok (.iconst 0, 1) := by decide +kernel
theorem dX1_settle_10 : decode cX1_settle 10 = .ok (.iload_n 1, 1) := by decide +kernel
theorem dX1_settle_11 : decode cX1_settle 11 = .ok (.iastore, 1) := by decide +kernel
theorem dX1_settle_12 : decode cX1_settle 12 = .ok (.iconst 0, 1) := by decide +kernel
theorem dX1_settle_13 : decode cX1_settle 13 = .ok (.istore 5, 2) := by decide +kernel
theorem dX1_settle_15 : decode cX1_settle 15 = .ok (.iload 5, 2) := by decide +kernel
theorem dX1_settle_17 : decode cX1_settle 17 = .ok (.iload 4, 2) := by decide +kernel
theorem dX1_settle_19 : decode cX1_settle 19 = .ok (.if_icmp .ge 127, 3) := by decide +kernel
theorem dX1_settle_22 : decode cX1_settle 22 = .ok (.iload 5, 2) := by decide +kernel
theorem dX1_settle_24 : decode cX1_settle 24 = .ok (.aload_n 0, 1) := by decide +kernel
theorem dX1_settle_25 : decode cX1_settle 25 = .ok (.getfield 24, 3) := by decide +kernel
theorem dX1_settle_28 : decode cX1_settle 28 = .ok (.arraylength, 1) := by decide +kernel
theorem dX1_settle_29 : decode cX1_settle 29 = .ok (.if_icmp .ge 117, 3) := by decide +kernel
theorem dX1_settle_32 : decode cX1_settle 32 = .ok (.aload_n 0, 1) := by decide +kernel
theorem dX1_settle_33 : decode cX1_settle 33 = .ok (.getfield 24, 3) := by decide +kernel
theorem dX1_settle_36 : decode cX1_settle 36 = .ok (.iload 5, 2) := by decide +kernel
theorem dX1_settle_38 : decode cX1_settle 38 = .ok (.iaload, 1) := by decide +kernel
theorem dX1_settle_39 : decode cX1_settle 39 = .ok (.istore 6, 2) := by decide +kernel
theorem dX1_settle_41 : decode cX1_settle 41 = .ok (.aload_n 0, 1) := by decide +kernel
theorem dX1_settle_42 : decode cX1_settle 42 = .ok (.getfield 11, 3) := by decide +kernel
theorem dX1_settle_45 : decode cX1_settle 45 = .ok (.iload 6, 2) := by decide +kernel
theorem dX1_settle_47 : decode cX1_settle 47 = .ok (.iaload, 1) := by decide +kernel
theorem dX1_settle_48 : decode cX1_settle 48 = .ok (.iload_n 2, 1) := by decide +kernel
theorem dX1_settle_49 : decode cX1_settle 49 = .ok (.iand, 1) := by decide +kernel
theorem dX1_settle_50 : decode cX1_settle 50 = .ok (.iload_n 3, 1) := by decide +kernel
theorem dX1_settle_51 : decode cX1_settle 51 = .ok (.iconst (-1), 1) := by decide +kernel
theorem dX1_settle_52 : decode cX1_settle 52 = .ok (.ixor, 1) := by decide +kernel
theorem dX1_settle_53 : decode cX1_settle 53 = .ok (.iand, 1) := by decide +kernel
theorem dX1_settle_54 : decode cX1_settle 54 = .ok (.istore 7, 2) := by decide +kernel
theorem dX1_settle_56 : decode cX1_settle 56 = .ok (.iload_n 3, 1) := by decide +kernel
theorem dX1_settle_57 : decode cX1_settle 57 = .ok (.iload 7, 2) := by decide +kernel
theorem dX1_settle_59 : decode cX1_settle 59 = .ok (.ior, 1) := by decide +kernel
theorem dX1_settle_60 : decode cX1_settle 60 = .ok (.istore_n 3, 1) := by decide +kernel
theorem dX1_settle_61 : decode cX1_settle 61 = .ok (.iload 7, 2) := by decide +kernel
theorem dX1_settle_63 : decode cX1_settle 63 = .ok (.ifCond .eq 77, 3) := by decide +kernel
theorem dX1_settle_66 : decode cX1_settle 66 = .ok (.iload 7, 2) := by decide +kernel
theorem dX1_settle_68 : decode cX1_settle 68 = .ok (.invokestatic 33, 3) := by decide +kernel
theorem dX1_settle_71 : decode cX1_settle 71 = .ok (.istore 8, 2) := by decide +kernel
theorem dX1_settle_73 : decode cX1_settle 73 = .ok (.aload_n 0, 1) := by decide +kernel
theorem dX1_settle_74 : decode cX1_settle 74 = .ok (.getfield 21, 3) := by decide +kernel
theorem dX1_settle_77 : decode cX1_settle 77 = .ok (.iload 8, 2) := by decide +kernel
theorem dX1_settle_79 : decode cX1_settle 79 = .ok (.iload 6, 2) := by decide +kernel
theorem dX1_settle_81 : decode cX1_settle 81 = .ok (.iastore, 1) := by decide +kernel
theorem dX1_settle_82 : decode cX1_settle 82 = .ok (.aload_n 0, 1) := by decide +kernel
theorem dX1_settle_83 : decode cX1_settle 83 = .ok (.getfield 18, 3) := by decide +kernel
theorem dX1_settle_86 : decode cX1_settle 86 = .ok (.iload 8, 2) := by decide +kernel
theorem dX1_settle_88 : decode cX1_settle 88 = .ok (.iaload, 1) := by decide +kernel
theorem dX1_settle_89 : decode cX1_settle 89 = .ok (.iconst (-1), 1) := by decide +kernel
theorem dX1_settle_90 : decode cX1_settle 90 = .ok (.if_icmp .ne 11, 3) := by decide +kernel
theorem dX1_settle_93 : decode cX1_settle 93 = .ok (.aload_n 0, 1) := by decide +kernel
theorem dX1_settle_94 : decode cX1_settle 94 = .ok (.iload 8, 2) := by decide +kernel
theorem dX1_settle_96 : decode cX1_settle 96 = .ok (.invokevirtual 37, 3) := by decide +kernel
theorem dX1_settle_99 : decode cX1_settle 99 = .ok (.iconst 1, 1) := by decide +kernel
theorem dX1_settle_100 : decode cX1_settle 100 = .ok (.ireturn, 1) := by decide +kernel
theorem dX1_settle_101 : decode cX1_settle 101 = .ok (.iload 4, 2) := by decide +kernel
theorem dX1_settle_103 : decode cX1_settle 103 = .ok (.aload_n 0, 1) := by decide +kernel
theorem dX1_settle_104 : decode cX1_settle 104 = .ok (.getfield 24, 3) := by decide +kernel
theorem dX1_settle_107 : decode cX1_settle 107 = .ok (.arraylength, 1) := by decide +kernel
theorem dX1_settle_108 : decode cX1_settle 108 = .ok (.if_icmp .ge 20, 3) := by decide +kernel
theorem dX1_settle_111 : decode cX1_settle 111 = .ok (.aload_n 0, 1) := by decide +kernel
theorem dX1_settle_112 : decode cX1_settle 112 = .ok (.getfield 24, 3) := by decide +kernel
theorem dX1_settle_115 : decode cX1_settle 115 = .ok (.iload 4, 2) := by decide +kernel
theorem dX1_settle_117 : decode cX1_settle 117 = .ok (.aload_n 0, 1) := by decide +kernel
theorem dX1_settle_118 : decode cX1_settle 118 = .ok (.getfield 18, 3) := by decide +kernel
theorem dX1_settle_121 : decode cX1_settle 121 = .ok (.iload 8, 2) := by decide +kernel
theorem dX1_settle_123 : decode cX1_settle 123 = .ok (.iaload, 1) := by decide +kernel
theorem dX1_settle_124 : decode cX1_settle 124 = .ok (.iastore, 1) := by decide +kernel
theorem dX1_settle_125 : decode cX1_settle 125 = .ok (.iinc 4 1, 3) := by decide +kernel
theorem dX1_settle_128 : decode cX1_settle 128 = .ok (.iload 7, 2) := by decide +kernel
theorem dX1_settle_130 : decode cX1_settle 130 = .ok (.iload 7, 2) := by decide +kernel
theorem dX1_settle_132 : decode cX1_settle 132 = .ok (.iconst 1, 1) := by decide +kernel
theorem dX1_settle_133 : decode cX1_settle 133 = .ok (.isub, 1) := by decide +kernel
theorem dX1_settle_134 : decode cX1_settle 134 = .ok (.iand, 1) := by decide +kernel
theorem dX1_settle_135 : decode cX1_settle 135 = .ok (.istore 7, 2) := by decide +kernel
theorem dX1_settle_137 : decode cX1_settle 137 = .ok (.goto (-76), 3) := by decide +kernel
theorem dX1_settle_140 : decode cX1_settle 140 = .ok (.iinc 5 1, 3) := by decide +kernel
theorem dX1_settle_143 : decode cX1_settle 143 = .ok (.goto (-128), 3) := by decide +kernel
theorem dX1_settle_146 : decode cX1_settle 146 = .ok (.iconst 0, 1) := by decide +kernel
theorem dX1_settle_147 : decode cX1_settle 147 = .ok (.ireturn, 1) := by decide +kernel
theorem dX1_changeSeats_0 : decode cX1_changeSeats 0 = .ok (.iload_n 1, 1) := by decide +kernel
theorem dX1_changeSeats_1 : decode cX1_changeSeats 1 = .ok (.istore_n 2, 1) := by decide +kernel
theorem dX1_changeSeats_2 : decode cX1_changeSeats 2 = .ok (.iconst 0, 1) := by decide +kernel
theorem dX1_changeSeats_3 : decode cX1_changeSeats 3 = .ok (.istore_n 3, 1) := by decide +kernel
theorem dX1_changeSeats_4 : decode cX1_changeSeats 4 = .ok (.iload_n 3, 1) := by decide +kernel
theorem dX1_changeSeats_5 : decode cX1_changeSeats 5 = .ok (.bipush 10, 2) := by decide +kernel
theorem dX1_changeSeats_7 : decode cX1_changeSeats 7 = .ok (.if_icmp .ge 41, 3) := by decide +kernel
theorem dX1_changeSeats_10 : decode cX1_changeSeats 10 = .ok (.iload_n 2, 1) := by decide +kernel
theorem dX1_changeSeats_11 : decode cX1_changeSeats 11 = .ok (.iconst (-1), 1) := by decide +kernel
theorem dX1_changeSeats_12 : decode cX1_changeSeats 12 = .ok (.if_icmp .eq 36, 3) := by decide +kernel
theorem dX1_changeSeats_15 : decode cX1_changeSeats 15 = .ok (.aload_n 0, 1) := by decide +kernel
theorem dX1_changeSeats_16 : decode cX1_changeSeats 16 = .ok (.getfield 21, 3) := by decide +kernel
theorem dX1_changeSeats_19 : decode cX1_changeSeats 19 = .ok (.iload_n 2, 1) := by decide +kernel
theorem dX1_changeSeats_20 : decode cX1_changeSeats 20 = .ok (.iaload, 1) := by decide +kernel
theorem dX1_changeSeats_21 : decode cX1_changeSeats 21 = .ok (.istore 4, 2) := by decide +kernel
theorem dX1_changeSeats_23 : decode cX1_changeSeats 23 = .ok (.aload_n 0, 1) := by decide +kernel
theorem dX1_changeSeats_24 : decode cX1_changeSeats 24 = .ok (.getfield 15, 3) := by decide +kernel
theorem dX1_changeSeats_27 : decode cX1_changeSeats 27 = .ok (.iload 4, 2) := by decide +kernel
theorem dX1_changeSeats_29 : decode cX1_changeSeats 29 = .ok (.iaload, 1) := by decide +kernel
theorem dX1_changeSeats_30 : decode cX1_changeSeats 30 = .ok (.istore 5, 2) := by decide +kernel
theorem dX1_changeSeats_32 : decode cX1_changeSeats 32 = .ok (.aload_n 0, 1) := by decide +kernel
theorem dX1_changeSeats_33 : decode cX1_changeSeats 33 = .ok (.iload 4, 2) := by decide +kernel
theorem dX1_changeSeats_35 : decode cX1_changeSeats 35 = .ok (.iload_n 2, 1) := by decide +kernel
theorem dX1_changeSeats_36 : decode cX1_changeSeats 36 = .ok (.invokevirtual 41, 3) := by decide +kernel
theorem dX1_changeSeats_39 : decode cX1_changeSeats 39 = .ok (.iload 5, 2) := by decide +kernel
theorem dX1_changeSeats_41 : decode cX1_changeSeats 41 = .ok (.istore_n 2, 1) := by decide +kernel
theorem dX1_changeSeats_42 : decode cX1_changeSeats 42 = .ok (.iinc 3 1, 3) := by decide +kernel
theorem dX1_changeSeats_45 : decode cX1_changeSeats 45 = .ok (.goto (-41), 3) := by decide +kernel
theorem dX1_changeSeats_48 : decode cX1_changeSeats 48 = .ok (.return_, 1) := by decide +kernel
theorem dX2_init_0 : decode cX2_init 0 = .ok (.aload_n 0, 1) := by decide +kernel
theorem dX2_init_1 : decode cX2_init 1 = .ok (.invokespecial 3, 3) := by decide +kernel
theorem dX2_init_4 : decode cX2_init 4 = .ok (.aload_n 0, 1) := by decide +kernel
theorem dX2_init_5 : decode cX2_init 5 = .ok (.bipush 80, 2) := by decide +kernel
theorem dX2_init_7 : decode cX2_init 7 = .ok (.newarray .int, 2) := by decide +kernel
theorem dX2_init_9 : decode cX2_init 9 = .ok (.putfield 9, 3) := by decide +kernel
theorem dX2_init_12 : decode cX2_init 12 = .ok (.aload_n 0, 1) := by decide +kernel
theorem dX2_init_13 : decode cX2_init 13 = .ok (.bipush 8, 2) := by decide +kernel
theorem dX2_init_15 : decode cX2_init 15 = .ok (.newarray .int, 2) := by decide +kernel
theorem dX2_init_17 : decode cX2_init 17 = .ok (.putfield 15, 3) := by decide +kernel
theorem dX2_init_20 : decode cX2_init 20 = .ok (.aload_n 0, 1) := by decide +kernel
theorem dX2_init_21 : decode cX2_init 21 = .ok (.iconst 0, 1) := by decide +kernel
theorem dX2_init_22 : decode cX2_init 22 = .ok (.putfield 18, 3) := by decide +kernel
theorem dX2_init_25 : decode cX2_init 25 = .ok (.aload_n 0, 1) := by decide +kernel
theorem dX2_init_26 : decode cX2_init 26 = .ok (.iconst 0, 1) := by decide +kernel
theorem dX2_init_27 : decode cX2_init 27 = .ok (.putfield 22, 3) := by decide +kernel
theorem dX2_init_30 : decode cX2_init 30 = .ok (.aload_n 0, 1) := by decide +kernel
theorem dX2_init_31 : decode cX2_init 31 = .ok (.bipush 100, 2) := by decide +kernel
theorem dX2_init_33 : decode cX2_init 33 = .ok (.newarray .int, 2) := by decide +kernel
theorem dX2_init_35 : decode cX2_init 35 = .ok (.putfield 25, 3) := by decide +kernel
theorem dX2_init_38 : decode cX2_init 38 = .ok (.aload_n 0, 1) := by decide +kernel
theorem dX2_init_39 : decode cX2_init 39 = .ok (.sipush 800, 3) := by decide +kernel
theorem dX2_init_42 : decode cX2_init 42 = .ok (.newarray .int, 2) := by decide +kernel
theorem dX2_init_44 : decode cX2_init 44 = .ok (.putfield 28, 3) := by decide +kernel
theorem dX2_init_47 : decode cX2_init 47 = .ok (.aload_n 0, 1) := by decide +kernel
theorem dX2_init_48 : decode cX2_init 48 = .ok (.iconst 0, 1) := by decide +kernel
theorem dX2_init_49 : decode cX2_init 49 = .ok (.putfield 31, 3) := by decide +kernel
theorem dX2_init_52 : decode cX2_init 52 = .ok (.aload_n 0, 1) := by decide +kernel
theorem dX2_init_53 : decode cX2_init 53 = .ok (.iconst 0, 1) := by decide +kernel
theorem dX2_init_54 : decode cX2_init 54 = .ok (.putfield 34, 3) := by decide +kernel
theorem dX2_init_57 : decode cX2_init 57 = .ok (.aload_n 0, 1) := by decide +kernel
theorem dX2_init_58 : decode cX2_init 58 = .ok (.bipush 8, 2) := by decide +kernel
theorem dX2_init_60 : decode cX2_init 60 = .ok (.newarray .int, 2) := by decide +kernel
theorem dX2_init_62 : decode cX2_init 62 = .ok (.putfield 38, 3) := by decide +kernel
theorem dX2_init_65 : decode cX2_init 65 = .ok (.aload_n 0, 1) := by decide +kernel
theorem dX2_init_66 : decode cX2_init 66 = .ok (.bipush 10, 2) := by decide +kernel
theorem dX2_init_68 : decode cX2_init 68 = .ok (.newarray .int, 2) := by decide +kernel
theorem dX2_init_70 : decode cX2_init 70 = .ok (.putfield 41, 3) := by decide +kernel
theorem dX2_init_73 : decode cX2_init 73 = .ok (.aload_n 0, 1) := by decide +kernel
theorem dX2_init_74 : decode cX2_init 74 = .ok (.new 44, 3) := by decide +kernel
theorem dX2_init_77 : decode cX2_init 77 = .ok (.dup, 1) := by decide +kernel
theorem dX2_init_78 : decode cX2_init 78 = .ok (.invokespecial 46, 3) := by decide +kernel
theorem dX2_init_81 : decode cX2_init 81 = .ok (.putfield 47, 3) := by decide +kernel
theorem dX2_init_84 : decode cX2_init 84 = .ok (.aload_n 0, 1) := by decide +kernel
theorem dX2_init_85 : decode cX2_init 85 = .ok (.new 44, 3) := by decide +kernel
theorem dX2_init_88 : decode cX2_init 88 = .ok (.dup, 1) := by decide +kernel
theorem dX2_init_89 : decode cX2_init 89 = .ok (.invokespecial 46, 3) := by decide +kernel
theorem dX2_init_92 : decode cX2_init 92 = .ok (.putfield 51, 3) := by decide +kernel
theorem dX2_init_95 : decode cX2_init 95 = .ok (.aload_n 0, 1) := by decide +kernel
theorem dX2_init_96 : decode cX2_init 96 = .ok (.iconst 0, 1) := by decide +kernel
theorem dX2_init_97 : decode cX2_init 97 = .ok (.putfield 54, 3) := by decide +kernel
theorem dX2_init_100 : decode cX2_init 100 = .ok (.aload_n 0, 1) := by decide +kernel
theorem dX2_init_101 : decode cX2_init 101 = .ok (.iconst 0, 1) := by decide +kernel
theorem dX2_init_102 : decode cX2_init 102 = .ok (.putfield 57, 3) := by decide +kernel
theorem dX2_init_105 : decode cX2_init 105 = .ok (.aload_n 0, 1) := by decide +kernel
theorem dX2_init_106 : decode cX2_init 106 = .ok (.iconst 0, 1) := by decide +kernel
theorem dX2_init_107 : decode cX2_init 107 = .ok (.putfield 60, 3) := by decide +kernel
theorem dX2_init_110 : decode cX2_init 110 = .ok (.return_, 1) := by decide +kernel
theorem dX2_open_0 : decode cX2_open 0 = .ok (.aload_n 1, 1) := by decide +kernel
theorem dX2_open_1 : decode cX2_open 1 = .ok (.iconst 0, 1) := by decide +kernel
theorem dX2_open_2 : decode cX2_open 2 = .ok (.aload_n 0, 1) := by decide +kernel
theorem dX2_open_3 : decode cX2_open 3 = .ok (.getfield 9, 3) := by decide +kernel
theorem dX2_open_6 : decode cX2_open 6 = .ok (.iconst 0, 1) := by decide +kernel
theorem dX2_open_7 : decode cX2_open 7 = .ok (.bipush 80, 2) := by decide +kernel
theorem dX2_open_9 : decode cX2_open 9 = .ok (.invokestatic 63, 3) := by decide +kernel
theorem dX2_open_12 : decode cX2_open 12 = .ok (.aload_n 0, 1) := by decide +kernel
theorem dX2_open_13 : decode cX2_open 13 = .ok (.iload_n 2, 1) := by decide +kernel
theorem dX2_open_14 : decode cX2_open 14 = .ok (.putfield 54, 3) := by decide +kernel
theorem dX2_open_17 : decode cX2_open 17 = .ok (.aload_n 0, 1) := by decide +kernel
theorem dX2_open_18 : decode cX2_open 18 = .ok (.iload_n 3, 1) := by decide +kernel
theorem dX2_open_19 : decode cX2_open 19 = .ok (.putfield 57, 3) := by decide +kernel
theorem dX2_open_22 : decode cX2_open 22 = .ok (.aload_n 0, 1) := by decide +kernel
theorem dX2_open_23 : decode cX2_open 23 = .ok (.getfield 38, 3) := by decide +kernel
theorem dX2_open_26 : decode cX2_open 26 = .ok (.iconst 0, 1) := by decide +kernel
theorem dX2_open_27 : decode cX2_open 27 = .ok (.invokestatic 69, 3) := by decide +kernel
theorem dX2_open_30 : decode cX2_open 30 = .ok (.aload_n 0, 1) := by decide +kernel
theorem dX2_open_31 : decode cX2_open 31 = .ok (.getfield 41, 3) := by decide +kernel
theorem dX2_open_34 : decode cX2_open 34 = .ok (.iconst 0, 1) := by decide +kernel
theorem dX2_open_35 : decode cX2_open 35 = .ok (.invokestatic 69, 3) := by decide +kernel
theorem dX2_open_38 : decode cX2_open 38 = .ok (.aload_n 0, 1) := by decide +kernel
theorem dX2_open_39 : decode cX2_open 39 = .ok (.getfield 47, 3) := by decide +kernel
theorem dX2_open_42 : decode cX2_open 42 = .ok (.getfield 75, 3) := by decide +kernel
theorem dX2_open_45 : decode cX2_open 45 = .ok (.iconst 0, 1) := by decide +kernel
theorem dX2_open_46 : decode cX2_open 46 = .ok (.invokestatic 69, 3) := by decide +kernel
theorem dX2_open_49 : decode cX2_open 49 = .ok (.aload_n 0, 1) := by decide +kernel
theorem dX2_open_50 : decode cX2_open 50 = .ok (.getfield 51, 3) := by decide +kernel
theorem dX2_open_53 : decode cX2_open 53 = .ok (.getfield 75, 3) := by decide +kernel
theorem dX2_open_56 : decode cX2_open 56 = .ok (.iconst 0, 1) := by decide +kernel
theorem dX2_open_57 : decode cX2_open 57 = .ok (.invokestatic 69, 3) := by decide +kernel
theorem dX2_open_60 : decode cX2_open 60 = .ok (.iconst 0, 1) := by decide +kernel
theorem dX2_open_61 : decode cX2_open 61 = .ok (.istore 4, 2) := by decide +kernel
theorem dX2_open_63 : decode cX2_open 63 = .ok (.iload 4, 2) := by decide +kernel
theorem dX2_open_65 : decode cX2_open 65 = .ok (.aload_n 0, 1) := by decide +kernel
theorem dX2_open_66 : decode cX2_open 66 = .ok (.getfield 54, 3) := by decide +kernel
theorem dX2_open_69 : decode cX2_open 69 = .ok (.if_icmp .ge 104, 3) := by decide +kernel
theorem dX2_open_72 : decode cX2_open 72 = .ok (.iconst 0, 1) := by decide +kernel
theorem dX2_open_73 : decode cX2_open 73 = .ok (.istore 5, 2) := by decide +kernel
theorem dX2_open_75 : decode cX2_open 75 = .ok (.iload 5, 2) := by decide +kernel
theorem dX2_open_77 : decode cX2_open 77 = .ok (.aload_n 0, 1) := by decide +kernel
theorem dX2_open_78 : decode cX2_open 78 = .ok (.getfield 57, 3) := by decide +kernel
theorem dX2_open_81 : decode cX2_open 81 = .ok (.if_icmp .ge 86, 3) := by decide +kernel
theorem dX2_open_84 : decode cX2_open 84 = .ok (.aload_n 0, 1) := by decide +kernel
theorem dX2_open_85 : decode cX2_open 85 = .ok (.getfield 9, 3) := by decide +kernel
theorem dX2_open_88 : decode cX2_open 88 = .ok (.iload 4, 2) := by decide +kernel
theorem dX2_open_90 : decode cX2_open 90 = .ok (.iload 5, 2) := by decide +kernel
theorem dX2_open_92 : decode cX2_open 92 = .ok (.invokestatic 78, 3) := by decide +kernel
theorem dX2_open_95 : decode cX2_open 95 = .ok (.iaload, 1) := by decide +kernel
theorem dX2_open_96 : decode cX2_open 96 = .ok (.istore 6, 2) := by decide +kernel
theorem dX2_open_98 : decode cX2_open 98 = .ok (.iload 6, 2) := by decide +kernel
theorem dX2_open_100 : decode cX2_open 100 = .ok (.ifCond .le 61, 3) := by decide +kernel
theorem dX2_open_103 : decode cX2_open 103 = .ok (.aload_n 0, 1) := by decide +kernel
theorem dX2_open_104 : decode cX2_open 104 = .ok (.getfield 38, 3) := by decide +kernel
theorem dX2_open_107 : decode cX2_open 107 = .ok (.iload 4, 2) := by decide +kernel
theorem dX2_open_109 : decode cX2_open 109 = .ok (.dup2, 1) := by decide +kernel
theorem dX2_open_110 : decode cX2_open 110 = .ok (.iaload, 1) := by decide +kernel
theorem dX2_open_111 : decode cX2_open 111 = .ok (.iload 6, 2) := by decide +kernel
theorem dX2_open_113 : decode cX2_open 113 = .ok (.iadd, 1) := by decide +kernel
theorem dX2_open_114 : decode cX2_open 114 = .ok (.iastore, 1) := by decide +kernel
theorem dX2_open_115 : decode cX2_open 115 = .ok (.aload_n 0, 1) := by decide +kernel
theorem dX2_open_116 : decode cX2_open 116 = .ok (.getfield 41, 3) := by decide +kernel
theorem dX2_open_119 : decode cX2_open 119 = .ok (.iload 5, 2) := by decide +kernel
theorem dX2_open_121 : decode cX2_open 121 = .ok (.dup2, 1) := by decide +kernel
theorem dX2_open_122 : decode cX2_open 122 = .ok (.iaload, 1) := by decide +kernel
theorem dX2_open_123 : decode cX2_open 123 = .ok (.iload 6, 2) := by decide +kernel
theorem dX2_open_125 : decode cX2_open 125 = .ok (.iadd, 1) := by decide +kernel
theorem dX2_open_126 : decode cX2_open 126 = .ok (.iastore, 1) := by decide +kernel
theorem dX2_open_127 : decode cX2_open 127 = .ok (.aload_n 0, 1) := by decide +kernel
theorem dX2_open_128 : decode cX2_open 128 = .ok (.getfield 47, 3) := by decide +kernel
theorem dX2_open_131 : decode cX2_open 131 = .ok (.getfield 75, 3) := by decide +kernel
theorem dX2_open_134 : decode cX2_open 134 = .ok (.iload 4, 2) := by decide +kernel
theorem dX2_open_136 : decode cX2_open 136 = .ok (.dup2, 1) := by decide +kernel
theorem dX2_open_137 : decode cX2_open 137 = .ok (.iaload, 1) := by decide +kernel
theorem dX2_open_138 : decode cX2_open 138 = .ok (.iconst 1, 1) := by decide +kernel
theorem dX2_open_139 : decode cX2_open 139 = .ok (.iload 5, 2) := by decide +kernel
theorem dX2_open_141 : decode cX2_open 141 = .ok (.ishl, 1) := by decide +kernel
theorem dX2_open_142 : decode cX2_open 142 = .ok (.ior, 1) := by decide +kernel
theorem dX2_open_143 : decode cX2_open 143 = .ok (.iastore, 1) := by decide +kernel
theorem dX2_open_144 : decode cX2_open 144 = .ok (.aload_n 0, 1) := by decide +kernel
theorem dX2_open_145 : decode cX2_open 145 = .ok (.getfield 51, 3) := by decide +kernel
theorem dX2_open_148 : decode cX2_open 148 = .ok (.getfield 75, 3) := by decide +kernel
theorem dX2_open_151 : decode cX2_open 151 = .ok (.iload 5, 2) := by decide +kernel
theorem dX2_open_153 : decode cX2_open 153 = .ok (.dup2, 1) := by decide +kernel
theorem dX2_open_154 : decode cX2_open 154 = .ok (.iaload, 1) := by decide +kernel
theorem dX2_open_155 : decode cX2_open 155 = .ok (.iconst 1, 1) := by decide +kernel
theorem dX2_open_156 : decode cX2_open 156 = .ok (.iload 4, 2) := by decide +kernel
theorem dX2_open_158 : decode cX2_open 158 = .ok (.ishl, 1) := by decide +kernel
theorem dX2_open_159 : decode cX2_open 159 = .ok (.ior, 1) := by decide +kernel
theorem dX2_open_160 : decode cX2_open 160 = .ok (.iastore, 1) := by decide +kernel
theorem dX2_open_161 : decode cX2_open 161 = .ok (.iinc 5 1, 3) := by decide +kernel
theorem dX2_open_164 : decode cX2_open 164 = .ok (.goto (-89), 3) := by decide +kernel
theorem dX2_open_167 : decode cX2_open 167 = .ok (.iinc 4 1, 3) := by decide +kernel
theorem dX2_open_170 : decode cX2_open 170 = .ok (.goto (-107), 3) := by decide +kernel
theorem dX2_open_173 : decode cX2_open 173 = .ok (.aload_n 0, 1) := by decide +kernel
theorem dX2_open_174 : decode cX2_open 174 = .ok (.aload_n 0, 1) := by decide +kernel
theorem dX2_open_175 : decode cX2_open 175 = .ok (.getfield 38, 3) := by decide +kernel
theorem dX2_open_178 : decode cX2_open 178 = .ok (.invokestatic 82, 3) := by decide +kernel
theorem dX2_open_181 : decode cX2_open 181 = .ok (.aload_n 0, 1) := by decide +kernel
theorem dX2_open_182 : decode cX2_open 182 = .ok (.getfield 41, 3) := by decide +kernel
theorem dX2_open_185 : decode cX2_open 185 = .ok (.invokestatic 82, 3) := by decide +kernel
theorem dX2_open_188 : decode cX2_open 188 = .ok (.invokestatic 86, 3) := by decide +kernel
theorem dX2_open_191 : decode cX2_open 191 = .ok (.putfield 22, 3) := by decide +kernel
theorem dX2_open_194 : decode cX2_open 194 = .ok (.return_, 1) := by decide +kernel
theorem dX2_findRound_0 : decode cX2_findRound 0 = .ok (.aload_n 0, 1) := by decide +kernel
theorem dX2_findRound_1 : decode cX2_findRound 1 = .ok (.getfield 22, 3) := by decide +kernel
theorem dX2_findRound_4 : decode cX2_findRound 4 = .ok (.ifCond .gt 5, 3) := by decide +kernel
theorem dX2_findRound_7 : decode cX2_findRound 7 = .ok (.iconst 0, 1) := by decide +kernel
theorem dX2_findRound_8 : decode cX2_findRound 8 = .ok (.ireturn, 1) := by decide +kernel
theorem dX2_findRound_9 : decode cX2_findRound 9 = .ok (.aload_n 0, 1) := by decide +kernel
theorem dX2_findRound_10 : decode cX2_findRound 10 = .ok (.iconst 1, 1) := by decide +kernel
theorem dX2_findRound_11 : decode cX2_findRound 11 = .ok (.aload_n 0, 1) := by decide +kernel
theorem dX2_findRound_12 : decode cX2_findRound 12 = .ok (.getfield 57, 3) := by decide +kernel
theorem dX2_findRound_15 : decode cX2_findRound 15 = .ok (.ishl, 1) := by decide +kernel
theorem dX2_findRound_16 : decode cX2_findRound 16 = .ok (.iconst 1, 1) := by decide +kernel
theorem dX2_findRound_17 : decode cX2_findRound 17 = .ok (.isub, 1) := by decide +kernel
theorem dX2_findRound_18 : decode cX2_findRound 18 = .ok (.putfield 60, 3) := by decide +kernel
theorem dX2_findRound_21 : decode cX2_findRound 21 = .ok (.aload_n 0, 1) := by decide +kernel
theorem dX2_findRound_22 : decode cX2_findRound 22 = .ok (.getfield 47, 3) := by decide +kernel
theorem dX2_findRound_25 : decode cX2_findRound 25 = .ok (.invokevirtual 91, 3) := by decide +kernel
theorem dX2_findRound_28 : decode cX2_findRound 28 = .ok (.aload_n 0, 1) := by decide +kernel
theorem dX2_findRound_29 : decode cX2_findRound 29 = .ok (.getfield 51, 3) := by decide +kernel
theorem dX2_findRound_32 : decode cX2_findRound 32 = .ok (.invokevirtual 91, 3) := by decide +kernel
theorem dX2_findRound_35 : decode cX2_findRound 35 = .ok (.iconst 0, 1) := by decide +kernel
theorem dX2_findRound_36 : decode cX2_findRound 36 = .ok (.istore_n 1, 1) := by decide +kernel
theorem dX2_findRound_37 : decode cX2_findRound 37 = .ok (.iload_n 1, 1) := by decide +kernel
theorem dX2_findRound_38 : decode cX2_findRound 38 = .ok (.aload_n 0, 1) := by decide +kernel
theorem dX2_findRound_39 : decode cX2_findRound 39 = .ok (.getfield 54, 3) := by decide +kernel
theorem dX2_findRound_42 : decode cX2_findRound 42 = .ok (.if_icmp .ge 35, 3) := by decide +kernel
theorem dX2_findRound_45 : decode cX2_findRound 45 = .ok (.aload_n 0, 1) := by decide +kernel
theorem dX2_findRound_46 : decode cX2_findRound 46 = .ok (.getfield 38, 3) := by decide +kernel
theorem dX2_findRound_49 : decode cX2_findRound 49 = .ok (.iload_n 1, 1) := by decide +kernel
theorem dX2_findRound_50 : decode cX2_findRound 50 = .ok (.iaload, 1) := by decide +kernel
theorem dX2_findRound_51 : decode cX2_findRound 51 = .ok (.aload_n 0, 1) := by decide +kernel
theorem dX2_findRound_52 : decode cX2_findRound 52 = .ok (.getfield 22, 3) := by decide +kernel
theorem dX2_findRound_55 : decode cX2_findRound 55 = .ok (.if_icmp .ne 16, 3) := by decide +kernel
theorem dX2_findRound_58 : decode cX2_findRound 58 = .ok (.aload_n 0, 1) := by decide +kernel
theorem dX2_findRound_59 : decode cX2_findRound 59 = .ok (.getfield 47, 3) := by decide +kernel
theorem dX2_findRound_62 : decode cX2_findRound 62 = .ok (.iload_n 1, 1) := by decide +kernel
theorem dX2_findRound_63 : decode cX2_findRound 63 = .ok (.aload_n 0, 1) := by decide +kernel
theorem dX2_findRound_64 : decode cX2_findRound 64 = .ok (.getfield 60, 3) := by decide +kernel
theorem dX2_findRound_67 : decode cX2_findRound 67 = .ok (.invokevirtual 94, 3) := by decide +kernel
theorem dX2_findRound_70 : decode cX2_findRound 70 = .ok (.pop, 1) := by decide +kernel
theorem dX2_findRound_71 : decode cX2_findRound 71 = .ok (.iinc 1 1, 3) := by decide +kernel
theorem dX2_findRound_74 : decode cX2_findRound 74 = .ok (.goto (-37), 3) := by decide +kernel
theorem dX2_findRound_77 : decode cX2_findRound 77 = .ok (.iconst 1, 1) := by decide +kernel
theorem dX2_findRound_78 : decode cX2_findRound 78 = .ok (.aload_n 0, 1) := by decide +kernel
theorem dX2_findRound_79 : decode cX2_findRound 79 = .ok (.getfield 54, 3) := by decide +kernel
theorem dX2_findRound_82 : decode cX2_findRound 82 = .ok (.ishl, 1) := by decide +kernel
theorem dX2_findRound_83 : decode cX2_findRound 83 = .ok (.iconst 1, 1) := by decide +kernel
theorem dX2_findRound_84 : decode cX2_findRound 84 = .ok (.isub, 1) := by decide +kernel
theorem dX2_findRound_85 : decode cX2_findRound 85 = .ok (.istore_n 1, 1) := by decide +kernel
theorem dX2_findRound_86 : decode cX2_findRound 86 = .ok (.iconst 0, 1) := by decide +kernel
theorem dX2_findRound_87 : decode cX2_findRound 87 = .ok (.istore_n 2, 1) := by decide +kernel
theorem dX2_findRound_88 : decode cX2_findRound 88 = .ok (.iload_n 2, 1) := by decide +kernel
theorem dX2_findRound_89 : decode cX2_findRound 89 = .ok (.aload_n 0, 1) := by decide +kernel
theorem dX2_findRound_90 : decode cX2_findRound 90 = .ok (.getfield 57, 3) := by decide +kernel
theorem dX2_findRound_93 : decode cX2_findRound 93 = .ok (.if_icmp .ge 32, 3) := by decide +kernel
theorem dX2_findRound_96 : decode cX2_findRound 96 = .ok (.aload_n 0, 1) := by decide +kernel
theorem dX2_findRound_97 : decode cX2_findRound 97 = .ok (.getfield 41, 3) := by decide +kernel
theorem dX2_findRound_100 : decode cX2_findRound 100 = .ok (.iload_n 2, 1) := by decide +kernel
theorem dX2_findRound_101 : decode cX2_findRound 101 = .ok (.iaload, 1) := by decide +kernel
theorem dX2_findRound_102 : decode cX2_findRound 102 = .ok (.aload_n 0, 1) := by decide +kernel
theorem dX2_findRound_103 : decode cX2_findRound 103 = .ok (.getfield 22, 3) := by decide +kernel
theorem dX2_findRound_106 : decode cX2_findRound 106 = .ok (.if_icmp .ne 13, 3) := by decide +kernel
theorem dX2_findRound_109 : decode cX2_findRound 109 = .ok (.aload_n 0, 1) := by decide +kernel
theorem dX2_findRound_110 : decode cX2_findRound 110 = .ok (.getfield 51, 3) := by decide +kernel
theorem dX2_findRound_113 : decode cX2_findRound 113 = .ok (.iload_n 2, 1) := by decide +kernel
theorem dX2_findRound_114 : decode cX2_findRound 114 = .ok (.iload_n 1, 1) := by decide +kernel
theorem dX2_findRound_115 : decode cX2_findRound 115 = .ok (.invokevirtual 94, 3) := by decide +kernel
theorem dX2_findRound_118 : decode cX2_findRound 118 = .ok (.pop, 1) := by decide +kernel
theorem dX2_findRound_119 : decode cX2_findRound 119 = .ok (.iinc 2 1, 3) := by decide +kernel
theorem dX2_findRound_122 : decode cX2_findRound 122 = .ok (.goto (-34), 3) := by decide +kernel
theorem dX2_findRound_125 : decode cX2_findRound 125 = .ok (.aload_n 0, 1) := by decide +kernel
theorem dX2_findRound_126 : decode cX2_findRound 126 = .ok (.aload_n 0, 1) := by decide +kernel
theorem dX2_findRound_127 : decode cX2_findRound 127 = .ok (.getfield 22, 3) := by decide +kernel
theorem dX2_findRound_130 : decode cX2_findRound 130 = .ok (.putfield 18, 3) := by decide +kernel
theorem dX2_findRound_133 : decode cX2_findRound 133 = .ok (.iconst 0, 1) := by decide +kernel
theorem dX2_findRound_134 : decode cX2_findRound 134 = .ok (.istore_n 2, 1) := by decide +kernel
theorem dX2_findRound_135 : decode cX2_findRound 135 = .ok (.iload_n 2, 1) := by decide +kernel
theorem dX2_findRound_136 : decode cX2_findRound 136 = .ok (.aload_n 0, 1) := by decide +kernel
theorem dX2_findRound_137 : decode cX2_findRound 137 = .ok (.getfield 54, 3) := by decide +kernel
theorem dX2_findRound_140 : decode cX2_findRound 140 = .ok (.if_icmp .ge 66, 3) := by decide +kernel
theorem dX2_findRound_143 : decode cX2_findRound 143 = .ok (.aload_n 0, 1) := by decide +kernel
theorem dX2_findRound_144 : decode cX2_findRound 144 = .ok (.iload_n 2, 1) := by decide +kernel
theorem dX2_findRound_145 : decode cX2_findRound 145 = .ok (.invokevirtual 98, 3) := by decide +kernel
theorem dX2_findRound_148 : decode cX2_findRound 148 = .ok (.istore_n 3, 1) := by decide +kernel
theorem dX2_findRound_149 : decode cX2_findRound 149 = .ok (.aload_n 0, 1) := by decide +kernel
theorem dX2_findRound_150 : decode cX2_findRound 150 = .ok (.getfield 15, 3) := by decide +kernel
theorem dX2_findRound_153 : decode cX2_findRound 153 = .ok (.iload_n 2, 1) := by decide +kernel
theorem dX2_findRound_154 : decode cX2_findRound 154 = .ok (.iload_n 3, 1) := by decide +kernel
theorem dX2_findRound_155 : decode cX2_findRound 155 = .ok (.iastore, 1) := by decide +kernel
theorem dX2_findRound_156 : decode cX2_findRound 156 = .ok (.iload_n 3, 1) := by decide +kernel
theorem dX2_findRound_157 : decode cX2_findRound 157 = .ok (.iconst (-1), 1) := by decide +kernel
theorem dX2_findRound_158 : decode cX2_findRound 158 = .ok (.if_icmp .ne 17, 3) := by decide +kernel
theorem dX2_findRound_161 : decode cX2_findRound 161 = .ok (.aload_n 0, 1) := by decide +kernel
theorem dX2_findRound_162 : decode cX2_findRound 162 = .ok (.getfield 22, 3) := by decide +kernel
theorem dX2_findRound_165 : decode cX2_findRound 165 = .ok (.aload_n 0, 1) := by decide +kernel
theorem dX2_findRound_166 : decode cX2_findRound 166 = .ok (.getfield 38, 3) := by decide +kernel
theorem dX2_findRound_169 : decode cX2_findRound 169 = .ok (.iload_n 2, 1) := by decide +kernel
theorem dX2_findRound_170 : decode cX2_findRound 170 = .ok (.iaload, 1) := by decide +kernel
theorem dX2_findRound_171 : decode cX2_findRound 171 = .ok (.isub, 1) := by decide +kernel
theorem dX2_findRound_172 : decode cX2_findRound 172 = .ok (.goto 13, 3) := by decide +kernel
theorem dX2_findRound_175 : decode cX2_findRound 175 = .ok (.aload_n 0, 1) := by decide +kernel
theorem dX2_findRound_176 : decode cX2_findRound 176 = .ok (.getfield 9, 3) := by decide +kernel
theorem dX2_findRound_179 : decode cX2_findRound 179 = .ok (.iload_n 2, 1) := by decide +kernel
theorem dX2_findRound_180 : decode cX2_findRound 180 = .ok (.iload_n 3, 1) := by decide +kernel
theorem dX2_findRound_181 : decode cX2_findRound 181 = .ok (.invokestatic 78, 3) := by decide +kernel
theorem dX2_findRound_184 : decode cX2_findRound 184 = .ok (.iaload, 1) := by decide +kernel
theorem dX2_findRound_185 : decode cX2_findRound 185 = .ok (.istore 4, 2) := by decide +kernel
theorem dX2_findRound_187 : decode cX2_findRound 187 = .ok (.aload_n 0, 1) := by decide +kernel
theorem dX2_findRound_188 : decode cX2_findRound 188 = .ok (.aload_n 0, 1) := by decide +kernel
theorem dX2_findRound_189 : decode cX2_findRound 189 = .ok (.getfield 18, 3) := by decide +kernel
theorem dX2_findRound_192 : decode cX2_findRound 192 = .ok (.iload 4, 2) := by decide +kernel
theorem dX2_findRound_194 : decode cX2_findRound 194 = .ok (.invokestatic 102, 3) := by decide +kernel
theorem dX2_findRound_197 : decode cX2_findRound 197 = .ok (.putfield 18, 3) := by decide +kernel
theorem dX2_findRound_200 : decode cX2_findRound 200 = .ok (.iinc 2 1, 3) := by decide +kernel
theorem dX2_findRound_203 : decode cX2_findRound 203 = .ok (.goto (-68), 3) := by decide +kernel
theorem dX2_findRound_206 : decode cX2_findRound 206 = .ok (.aload_n 0, 1) := by decide +kernel
theorem dX2_findRound_207 : decode cX2_findRound 207 = .ok (.getfield 60, 3) := by decide +kernel
theorem dX2_findRound_210 : decode cX2_findRound 210 = .ok (.istore_n 2, 1) := by decide +kernel
theorem dX2_findRound_211 : decode cX2_findRound 211 = .ok (.iload_n 2, 1) := by decide +kernel
theorem dX2_findRound_212 : decode cX2_findRound 212 = .ok (.ifCond .eq 37, 3) := by decide +kernel
theorem dX2_findRound_215 : decode cX2_findRound 215 = .ok (.aload_n 0, 1) := by decide +kernel
theorem dX2_findRound_216 : decode cX2_findRound 216 = .ok (.aload_n 0, 1) := by decide +kernel
theorem dX2_findRound_217 : decode cX2_findRound 217 = .ok (.getfield 18, 3) := by decide +kernel
theorem dX2_findRound_220 : decode cX2_findRound 220 = .ok (.aload_n 0, 1) := by decide +kernel
theorem dX2_findRound_221 : decode cX2_findRound 221 = .ok (.getfield 22, 3) := by decide +kernel
theorem dX2_findRound_224 : decode cX2_findRound 224 = .ok (.aload_n 0, 1) := by decide +kernel
theorem dX2_findRound_225 : decode cX2_findRound 225 = .ok (.getfield 41, 3) := by decide +kernel
theorem dX2_findRound_228 : decode cX2_findRound 228 = .ok (.iload_n 2, 1) := by decide +kernel
theorem dX2_findRound_229 : decode cX2_findRound 229 = .ok (.invokestatic 105, 3) := by decide +kernel
theorem dX2_findRound_232 : decode cX2_findRound 232 = .ok (.iaload, 1) := by decide +kernel
theorem dX2_findRound_233 : decode cX2_findRound 233 = .ok (.isub, 1) := by decide +kernel
theorem dX2_findRound_234 : decode cX2_findRound 234 = .ok (.invokestatic 102, 3) := by decide +kernel
theorem dX2_findRound_237 : decode cX2_findRound 237 = .ok (.putfield 18, 3) := by decide +kernel
theorem dX2_findRound_240 : decode cX2_findRound 240 = .ok (.iload_n 2, 1) := by decide +kernel
theorem dX2_findRound_241 : decode cX2_findRound 241 = .ok (.iload_n 2, 1) := by decide +kernel
theorem dX2_findRound_242 : decode cX2_findRound 242 = .ok (.iconst 1, 1) := by decide +kernel
theorem dX2_findRound_243 : decode cX2_findRound 243 = .ok (.isub, 1) := by decide +kernel
theorem dX2_findRound_244 : decode cX2_findRound 244 = .ok (.iand, 1) := by decide +kernel
theorem dX2_findRound_245 : decode cX2_findRound 245 = .ok (.istore_n 2, 1) := by decide +kernel
theorem dX2_findRound_246 : decode cX2_findRound 246 = .ok (.goto (-35), 3) := by decide +kernel
theorem dX2_findRound_249 : decode cX2_findRound 249 = .ok (.iconst 1, 1) := by decide +kernel
theorem dX2_findRound_250 : decode cX2_findRound 250 = .ok (.ireturn, 1) := by decide +kernel
theorem dX2_pass_0 : decode cX2_pass 0 = .ok (.iconst 0, 1) := by decide +kernel
theorem dX2_pass_1 : decode cX2_pass 1 = .ok (.istore_n 2, 1) := by decide +kernel
theorem dX2_pass_2 : decode cX2_pass 2 = .ok (.iload_n 2, 1) := by decide +kernel
theorem dX2_pass_3 : decode cX2_pass 3 = .ok (.aload_n 0, 1) := by decide +kernel
theorem dX2_pass_4 : decode cX2_pass 4 = .ok (.getfield 54, 3) := by decide +kernel
theorem dX2_pass_7 : decode cX2_pass 7 = .ok (.if_icmp .ge 103, 3) := by decide +kernel
theorem dX2_pass_10 : decode cX2_pass 10 = .ok (.aload_n 0, 1) := by decide +kernel
theorem dX2_pass_11 : decode cX2_pass 11 = .ok (.getfield 15, 3) := by decide +kernel
theorem dX2_pass_14 : decode cX2_pass 14 = .ok (.iload_n 2, 1) := by decide +kernel
theorem dX2_pass_15 : decode cX2_pass 15 = .ok (.iaload, 1) := by decide +kernel
theorem dX2_pass_16 : decode cX2_pass 16 = .ok (.istore_n 3, 1) := by decide +kernel
theorem dX2_pass_17 : decode cX2_pass 17 = .ok (.iload_n 3, 1) := by decide +kernel
theorem dX2_pass_18 : decode cX2_pass 18 = .ok (.iconst (-1), 1) := by decide +kernel
theorem dX2_pass_19 : decode cX2_pass 19 = .ok (.if_icmp .eq 85, 3) := by decide +kernel
theorem dX2_pass_22 : decode cX2_pass 22 = .ok (.iload_n 2, 1) := by decide +kernel
theorem dX2_pass_23 : decode cX2_pass 23 = .ok (.iload_n 3, 1) := by decide +kernel
theorem dX2_pass_24 : decode cX2_pass 24 = .ok (.invokestatic 78, 3) := by decide +kernel
theorem dX2_pass_27 : decode cX2_pass 27 = .ok (.istore 4, 2) := by decide +kernel
theorem dX2_pass_29 : decode cX2_pass 29 = .ok (.aload_n 0, 1) := by decide +kernel
theorem dX2_pass_30 : decode cX2_pass 30 = .ok (.getfield 9, 3) := by decide +kernel
theorem dX2_pass_33 : decode cX2_pass 33 = .ok (.iload 4, 2) := by decide +kernel
theorem dX2_pass_35 : decode cX2_pass 35 = .ok (.dup2, 1) := by decide +kernel
theorem dX2_pass_36 : decode cX2_pass 36 = .ok (.iaload, 1) := by decide +kernel
theorem dX2_pass_37 : decode cX2_pass 37 = .ok (.iload_n 1, 1) := by decide +kernel
theorem dX2_pass_38 : decode cX2_pass 38 = .ok (.isub, 1) := by decide +kernel
theorem dX2_pass_39 : decode cX2_pass 39 = .ok (.iastore, 1) := by decide +kernel
theorem dX2_pass_40 : decode cX2_pass 40 = .ok (.aload_n 0, 1) := by decide +kernel
theorem dX2_pass_41 : decode cX2_pass 41 = .ok (.getfield 38, 3) := by decide +kernel
theorem dX2_pass_44 : decode cX2_pass 44 = .ok (.iload_n 2, 1) := by decide +kernel
theorem dX2_pass_45 : decode cX2_pass 45 = .ok (.dup2, 1) := by decide +kernel
theorem dX2_pass_46 : decode cX2_pass 46 = .ok (.iaload, 1) := by decide +kernel
theorem dX2_pass_47 : decode cX2_pass 47 = .ok (.iload_n 1, 1) := by decide +kernel
theorem dX2_pass_48 : decode cX2_pass 48 = .ok (.isub, 1) := by decide +kernel
theorem dX2_pass_49 : decode cX2_pass 49 = .ok (.iastore, 1) := by decide +kernel
theorem dX2_pass_50 : decode cX2_pass 50 = .ok (.aload_n 0, 1) := by decide +kernel
theorem dX2_pass_51 : decode cX2_pass 51 = .ok (.getfield 41, 3) := by decide +kernel
theorem dX2_pass_54 : decode cX2_pass 54 = .ok (.iload_n 3, 1) := by decide +kernel
theorem dX2_pass_55 : decode cX2_pass 55 = .ok (.dup2, 1) := by decide +kernel
theorem dX2_pass_56 : decode cX2_pass 56 = .ok (.iaload, 1) := by decide +kernel
theorem dX2_pass_57 : decode cX2_pass 57 = .ok (.iload_n 1, 1) := by decide +kernel
theorem dX2_pass_58 : decode cX2_pass 58 = .ok (.isub, 1) := by decide +kernel
theorem dX2_pass_59 : decode cX2_pass 59 = .ok (.iastore, 1) := by decide +kernel
theorem dX2_pass_60 : decode cX2_pass 60 = .ok (.aload_n 0, 1) := by decide +kernel
theorem dX2_pass_61 : decode cX2_pass 61 = .ok (.getfield 9, 3) := by decide +kernel
theorem dX2_pass_64 : decode cX2_pass 64 = .ok (.iload 4, 2) := by decide +kernel
theorem dX2_pass_66 : decode cX2_pass 66 = .ok (.iaload, 1) := by decide +kernel
theorem dX2_pass_67 : decode cX2_pass 67 = .ok (.ifCond .ne 37, 3) := by decide +kernel
theorem dX2_pass_70 : decode cX2_pass 70 = .ok (.aload_n 0, 1) := by decide +kernel
theorem dX2_pass_71 : decode cX2_pass 71 = .ok (.getfield 47, 3) := by decide +kernel
theorem dX2_pass_74 : decode cX2_pass 74 = .ok (.getfield 75, 3) := by decide +kernel
theorem dX2_pass_77 : decode cX2_pass 77 = .ok (.iload_n 2, 1) := by decide +kernel
theorem dX2_pass_78 : decode cX2_pass 78 = .ok (.dup2, 1) := by decide +kernel
theorem dX2_pass_79 : decode cX2_pass 79 = .ok (.iaload, 1) := by decide +kernel
theorem dX2_pass_80 : decode cX2_pass 80 = .ok (.iconst 1, 1) := by decide +kernel
theorem dX2_pass_81 : decode cX2_pass 81 = .ok (.iload_n 3, 1) := by decide +kernel
theorem dX2_pass_82 : decode cX2_pass 82 = .ok (.ishl, 1) := by decide +kernel
theorem dX2_pass_83 : decode cX2_pass 83 = .ok (.iconst (-1), 1) := by decide +kernel
theorem dX2_pass_84 : decode cX2_pass 84 = .ok (.ixor, 1) := by decide +kernel
theorem dX2_pass_85 : decode cX2_pass 85 = .ok (.iand, 1) := by decide +kernel
theorem dX2_pass_86 : decode cX2_pass 86 = .ok (.iastore, 1) := by decide +kernel
theorem dX2_pass_87 : decode cX2_pass 87 = .ok (.aload_n 0, 1) := by decide +kernel
theorem dX2_pass_88 : decode cX2_pass 88 = .ok (.getfield 51, 3) := by decide +kernel
theorem dX2_pass_91 : decode cX2_pass 91 = .ok (.getfield 75, 3) := by decide +kernel
theorem dX2_pass_94 : decode cX2_pass 94 = .ok (.iload_n 3, 1) := by decide +kernel
theorem dX2_pass_95 : decode cX2_pass 95 = .ok (.dup2, 1) := by decide +kernel
theorem dX2_pass_96 : decode cX2_pass 96 = .ok (.iaload, 1) := by decide +kernel
theorem dX2_pass_97 : decode cX2_pass 97 = .ok (.iconst 1, 1) := by decide +kernel
theorem dX2_pass_98 : decode cX2_pass 98 = .ok (.iload_n 2, 1) := by decide +kernel
theorem dX2_pass_99 : decode cX2_pass 99 = .ok (.ishl, 1) := by decide +kernel
theorem dX2_pass_100 : decode cX2_pass 100 = .ok (.iconst (-1), 1) := by decide +kernel
theorem dX2_pass_101 : decode cX2_pass 101 = .ok (.ixor, 1) := by decide +kernel
theorem dX2_pass_102 : decode cX2_pass 102 = .ok (.iand, 1) := by decide +kernel
theorem dX2_pass_103 : decode cX2_pass 103 = .ok (.iastore, 1) := by decide +kernel
theorem dX2_pass_104 : decode cX2_pass 104 = .ok (.iinc 2 1, 3) := by decide +kernel
theorem dX2_pass_107 : decode cX2_pass 107 = .ok (.goto (-105), 3) := by decide +kernel
theorem dX2_pass_110 : decode cX2_pass 110 = .ok (.aload_n 0, 1) := by decide +kernel
theorem dX2_pass_111 : decode cX2_pass 111 = .ok (.dup, 1) := by decide +kernel
theorem dX2_pass_112 : decode cX2_pass 112 = .ok (.getfield 22, 3) := by decide +kernel
theorem dX2_pass_115 : decode cX2_pass 115 = .ok (.iload_n 1, 1) := by decide +kernel
theorem dX2_pass_116 : decode cX2_pass 116 = .ok (.isub, 1) := by decide +kernel
theorem dX2_pass_117 : decode cX2_pass 117 = .ok (.putfield 22, 3) := by decide +kernel
theorem dX2_pass_120 : decode cX2_pass 120 = .ok (.return_, 1) := by decide +kernel
theorem dX2_goOn_0 : decode cX2_goOn 0 = .ok (.iconst 0, 1) := by decide +kernel
theorem dX2_goOn_1 : decode cX2_goOn 1 = .ok (.istore_n 2, 1) := by decide +kernel
theorem dX2_goOn_2 : decode cX2_goOn 2 = .ok (.iconst 0, 1) := by decide +kernel
theorem dX2_goOn_3 : decode cX2_goOn 3 = .ok (.istore_n 3, 1) := by decide +kernel
theorem dX2_goOn_4 : decode cX2_goOn 4 = .ok (.iload_n 3, 1) := by decide +kernel
theorem dX2_goOn_5 : decode cX2_goOn 5 = .ok (.bipush 100, 2) := by decide +kernel
theorem dX2_goOn_7 : decode cX2_goOn 7 = .ok (.if_icmp .ge 44, 3) := by decide +kernel
theorem dX2_goOn_10 : decode cX2_goOn 10 = .ok (.iload_n 2, 1) := by decide +kernel
theorem dX2_goOn_11 : decode cX2_goOn 11 = .ok (.iload_n 1, 1) := by decide +kernel
theorem dX2_goOn_12 : decode cX2_goOn 12 = .ok (.if_icmp .ge 39, 3) := by decide +kernel
theorem dX2_goOn_15 : decode cX2_goOn 15 = .ok (.aload_n 0, 1) := by decide +kernel
theorem dX2_goOn_16 : decode cX2_goOn 16 = .ok (.invokevirtual 108, 3) := by decide +kernel
theorem dX2_goOn_19 : decode cX2_goOn 19 = .ok (.ifCond .eq 32, 3) := by decide +kernel
theorem dX2_goOn_22 : decode cX2_goOn 22 = .ok (.aload_n 0, 1) := by decide +kernel
theorem dX2_goOn_23 : decode cX2_goOn 23 = .ok (.getfield 18, 3) := by decide +kernel
theorem dX2_goOn_26 : decode cX2_goOn 26 = .ok (.iload_n 1, 1) := by decide +kernel
theorem dX2_goOn_27 : decode cX2_goOn 27 = .ok (.iload_n 2, 1) := by decide +kernel
theorem dX2_goOn_28 : decode cX2_goOn 28 = .ok (.isub, 1) := by decide +kernel
theorem dX2_goOn_29 : decode cX2_goOn 29 = .ok (.invokestatic 102, 3) := by decide +kernel
theorem dX2_goOn_32 : decode cX2_goOn 32 = .ok (.istore 4, 2) := by decide +kernel
theorem dX2_goOn_34 : decode cX2_goOn 34 = .ok (.aload_n 0, 1) := by decide +kernel
theorem dX2_goOn_35 : decode cX2_goOn 35 = .ok (.iload 4, 2) := by decide +kernel
theorem dX2_goOn_37 : decode cX2_goOn 37 = .ok (.invokevirtual 112, 3) := by decide +kernel
theorem dX2_goOn_40 : decode cX2_goOn 40 = .ok (.iload_n 2, 1) := by decide +kernel
theorem dX2_goOn_41 : decode cX2_goOn 41 = .ok (.iload 4, 2) := by decide +kernel
theorem dX2_goOn_43 : decode cX2_goOn 43 = .ok (.iadd, 1) := by decide +kernel
theorem dX2_goOn_44 : decode cX2_goOn 44 = .ok (.istore_n 2, 1) := by decide +kernel
theorem dX2_goOn_45 : decode cX2_goOn 45 = .ok (.iinc 3 1, 3) := by decide +kernel
theorem dX2_goOn_48 : decode cX2_goOn 48 = .ok (.goto (-44), 3) := by decide +kernel
theorem dX2_goOn_51 : decode cX2_goOn 51 = .ok (.iload_n 2, 1) := by decide +kernel
theorem dX2_goOn_52 : decode cX2_goOn 52 = .ok (.ireturn, 1) := by decide +kernel
theorem dX2_list_0 : decode cX2_list 0 = .ok (.aload_n 0, 1) := by decide +kernel
theorem dX2_list_1 : decode cX2_list 1 = .ok (.getfield 34, 3) := by decide +kernel
theorem dX2_list_4 : decode cX2_list 4 = .ok (.ifCond .eq 4, 3) := by decide +kernel
theorem dX2_list_7 : decode cX2_list 7 = .ok (.return_, 1) := by decide +kernel
theorem dX2_list_8 : decode cX2_list 8 = .ok (.aload_n 0, 1) := by decide +kernel
theorem dX2_list_9 : decode cX2_list 9 = .ok (.iconst 1, 1) := by decide +kernel
theorem dX2_list_10 : decode cX2_list 10 = .ok (.putfield 34, 3) := by decide +kernel
theorem dX2_list_13 : decode cX2_list 13 = .ok (.aload_n 0, 1) := by decide +kernel
theorem dX2_list_14 : decode cX2_list 14 = .ok (.iconst 0, 1) := by decide +kernel
theorem dX2_list_15 : decode cX2_list 15 = .ok (.putfield 31, 3) := by decide +kernel
theorem dX2_list_18 : decode cX2_list 18 = .ok (.aload_n 0, 1) := by decide +kernel
theorem dX2_list_19 : decode cX2_list 19 = .ok (.aload_n 1, 1) := by decide +kernel
theorem dX2_list_20 : decode cX2_list 20 = .ok (.getfield 116, 3) := by decide +kernel
theorem dX2_list_23 : decode cX2_list 23 = .ok (.aload_n 1, 1) := by decide +kernel
theorem dX2_list_24 : decode cX2_list 24 = .ok (.getfield 121, 3) := by decide +kernel
theorem dX2_list_27 : decode cX2_list 27 = .ok (.aload_n 1, 1) := by decide +kernel
theorem dX2_list_28 : decode cX2_list 28 = .ok (.getfield 122, 3) := by decide +kernel
theorem dX2_list_31 : decode cX2_list 31 = .ok (.invokevirtual 123, 3) := by decide +kernel
theorem dX2_list_34 : decode cX2_list 34 = .ok (.aload_n 0, 1) := by decide +kernel
theorem dX2_list_35 : decode cX2_list 35 = .ok (.getfield 31, 3) := by decide +kernel
theorem dX2_list_38 : decode cX2_list 38 = .ok (.bipush 100, 2) := by decide +kernel
theorem dX2_list_40 : decode cX2_list 40 = .ok (.if_icmp .ge 65, 3) := by decide +kernel
theorem dX2_list_43 : decode cX2_list 43 = .ok (.aload_n 0, 1) := by decide +kernel
theorem dX2_list_44 : decode cX2_list 44 = .ok (.invokevirtual 108, 3) := by decide +kernel
theorem dX2_list_47 : decode cX2_list 47 = .ok (.ifCond .eq 58, 3) := by decide +kernel
theorem dX2_list_50 : decode cX2_list 50 = .ok (.aload_n 0, 1) := by decide +kernel
theorem dX2_list_51 : decode cX2_list 51 = .ok (.getfield 25, 3) := by decide +kernel
theorem dX2_list_54 : decode cX2_list 54 = .ok (.aload_n 0, 1) := by decide +kernel
theorem dX2_list_55 : decode cX2_list 55 = .ok (.getfield 31, 3) := by decide +kernel
theorem dX2_list_58 : decode cX2_list 58 = .ok (.aload_n 0, 1) := by decide +kernel
theorem dX2_list_59 : decode cX2_list 59 = .ok (.getfield 18, 3) := by decide +kernel
theorem dX2_list_62 : decode cX2_list 62 = .ok (.iastore, 1) := by decide +kernel
theorem dX2_list_63 : decode cX2_list 63 = .ok (.aload_n 0, 1) := by decide +kernel
theorem dX2_list_64 : decode cX2_list 64 = .ok (.getfield 15, 3) := by decide +kernel
theorem dX2_list_67 : decode cX2_list 67 = .ok (.iconst 0, 1) := by decide +kernel
theorem dX2_list_68 : decode cX2_list 68 = .ok (.aload_n 0, 1) := by decide +kernel
theorem dX2_list_69 : decode cX2_list 69 = .ok (.getfield 28, 3) := by decide +kernel
theorem dX2_list_72 : decode cX2_list 72 = .ok (.aload_n 0, 1) := by decide +kernel
theorem dX2_list_73 : decode cX2_list 73 = .ok (.getfield 31, 3) := by decide +kernel
theorem dX2_list_76 : decode cX2_list 76 = .ok (.bipush 8, 2) := by decide +kernel
theorem dX2_list_78 : decode cX2_list 78 = .ok (.imul, 1) := by decide +kernel
theorem dX2_list_79 : decode cX2_list 79 = .ok (.bipush 8, 2) := by decide +kernel
theorem dX2_list_81 : decode cX2_list 81 = .ok (.invokestatic 63, 3) := by decide +kernel
theorem dX2_list_84 : decode cX2_list 84 = .ok (.aload_n 0, 1) := by decide +kernel
theorem dX2_list_85 : decode cX2_list 85 = .ok (.aload_n 0, 1) := by decide +kernel
theorem dX2_list_86 : decode cX2_list 86 = .ok (.getfield 18, 3) := by decide +kernel
theorem dX2_list_89 : decode cX2_list 89 = .ok (.invokevirtual 112, 3) := by decide +kernel
theorem dX2_list_92 : decode cX2_list 92 = .ok (.aload_n 0, 1) := by decide +kernel
theorem dX2_list_93 : decode cX2_list 93 = .ok (.dup, 1) := by decide +kernel
theorem dX2_list_94 : decode cX2_list 94 = .ok (.getfield 31, 3) := by decide +kernel
theorem dX2_list_97 : decode cX2_list 97 = .ok (.iconst 1, 1) := by decide +kernel
theorem dX2_list_98 : decode cX2_list 98 = .ok (.iadd, 1) := by decide +kernel
theorem dX2_list_99 : decode cX2_list 99 = .ok (.putfield 31, 3) := by decide +kernel
theorem dX2_list_102 : decode cX2_list 102 = .ok (.goto (-68), 3) := by decide +kernel
theorem dX2_list_105 : decode cX2_list 105 = .ok (.return_, 1) := by decide +kernel
theorem dX2_payListed_0 : decode cX2_payListed 0 = .ok (.iconst 0, 1) := by decide +kernel
theorem dX2_payListed_1 : decode cX2_payListed 1 = .ok (.istore_n 3, 1) := by decide +kernel
theorem dX2_payListed_2 : decode cX2_payListed 2 = .ok (.iload_n 2, 1) := by decide +kernel
theorem dX2_payListed_3 : decode cX2_payListed 3 = .ok (.istore 4, 2) := by decide +kernel
theorem dX2_payListed_5 : decode cX2_payListed 5 = .ok (.iconst 0, 1) := by decide +kernel
theorem dX2_payListed_6 : decode cX2_payListed 6 = .ok (.istore 5, 2) := by decide +kernel
theorem dX2_payListed_8 : decode cX2_payListed 8 = .ok (.iload 5, 2) := by decide +kernel
theorem dX2_payListed_10 : decode cX2_payListed 10 = .ok (.aload_n 0, 1) := by decide +kernel
theorem dX2_payListed_11 : decode cX2_payListed 11 = .ok (.getfield 31, 3) := by decide +kernel
theorem dX2_payListed_14 : decode cX2_payListed 14 = .ok (.if_icmp .ge 116, 3) := by decide +kernel
theorem dX2_payListed_17 : decode cX2_payListed 17 = .ok (.iload 4, 2) := by decide +kernel
theorem dX2_payListed_19 : decode cX2_payListed 19 = .ok (.aload_n 0, 1) := by decide +kernel
theorem dX2_payListed_20 : decode cX2_payListed 20 = .ok (.getfield 25, 3) := by decide +kernel
theorem dX2_payListed_23 : decode cX2_payListed 23 = .ok (.iload 5, 2) := by decide +kernel
theorem dX2_payListed_25 : decode cX2_payListed 25 = .ok (.iaload, 1) := by decide +kernel
theorem dX2_payListed_26 : decode cX2_payListed 26 = .ok (.iadd, 1) := by decide +kernel
theorem dX2_payListed_27 : decode cX2_payListed 27 = .ok (.istore 6, 2) := by decide +kernel
theorem dX2_payListed_29 : decode cX2_payListed 29 = .ok (.aload_n 0, 1) := by decide +kernel
theorem dX2_payListed_30 : decode cX2_payListed 30 = .ok (.getfield 25, 3) := by decide +kernel
theorem dX2_payListed_33 : decode cX2_payListed 33 = .ok (.iload 5, 2) := by decide +kernel
theorem dX2_payListed_35 : decode cX2_payListed 35 = .ok (.iaload, 1) := by decide +kernel
theorem dX2_payListed_36 : decode cX2_payListed 36 = .ok (.istore 7, 2) := by decide +kernel
theorem dX2_payListed_38 : decode cX2_payListed 38 = .ok (.aload_n 1, 1) := by decide +kernel
theorem dX2_payListed_39 : decode cX2_payListed 39 = .ok (.getfield 127, 3) := by decide +kernel
theorem dX2_payListed_42 : decode cX2_payListed 42 = .ok (.iconst (-1), 1) := by decide +kernel
theorem dX2_payListed_43 : decode cX2_payListed 43 = .ok (.if_icmp .eq 29, 3) := by decide +kernel
theorem dX2_payListed_46 : decode cX2_payListed 46 = .ok (.iload 6, 2) := by decide +kernel
theorem dX2_payListed_48 : decode cX2_payListed 48 = .ok (.aload_n 1, 1) := by decide +kernel
theorem dX2_payListed_49 : decode cX2_payListed 49 = .ok (.getfield 127, 3) := by decide +kernel
theorem dX2_payListed_52 : decode cX2_payListed 52 = .ok (.if_icmp .le 20, 3) := by decide +kernel
theorem dX2_payListed_55 : decode cX2_payListed 55 = .ok (.iload 7, 2) := by decide +kernel
theorem dX2_payListed_57 : decode cX2_payListed 57 = .ok (.iload 6, 2) := by decide +kernel
theorem dX2_payListed_59 : decode cX2_payListed 59 = .ok (.iload 4, 2) := by decide +kernel
theorem dX2_payListed_61 : decode cX2_payListed 61 = .ok (.aload_n 1, 1) := by decide +kernel
theorem dX2_payListed_62 : decode cX2_payListed 62 = .ok (.getfield 127, 3) := by decide +kernel
theorem dX2_payListed_65 : decode cX2_payListed 65 = .ok (.invokestatic 86, 3) := by decide +kernel
theorem dX2_payListed_68 : decode cX2_payListed 68 = .ok (.isub, 1) := by decide +kernel
theorem dX2_payListed_69 : decode cX2_payListed 69 = .ok (.iadd, 1) := by decide +kernel
theorem dX2_payListed_70 : decode cX2_payListed 70 = .ok (.istore 7, 2) := by decide +kernel
theorem dX2_payListed_72 : decode cX2_payListed 72 = .ok (.iconst 0, 1) := by decide +kernel
theorem dX2_payListed_73 : decode cX2_payListed 73 = .ok (.istore 8, 2) := by decide +kernel
theorem dX2_payListed_75 : decode cX2_payListed 75 = .ok (.iload 8, 2) := by decide +kernel
theorem dX2_payListed_77 : decode cX2_payListed 77 = .ok (.aload_n 1, 1) := by decide +kernel
theorem dX2_payListed_78 : decode cX2_payListed 78 = .ok (.getfield 132, 3) := by decide +kernel
theorem dX2_payListed_81 : decode cX2_payListed 81 = .ok (.if_icmp .ge 39, 3) := by decide +kernel
theorem dX2_payListed_84 : decode cX2_payListed 84 = .ok (.aload_n 0, 1) := by decide +kernel
theorem dX2_payListed_85 : decode cX2_payListed 85 = .ok (.getfield 28, 3) := by decide +kernel
theorem dX2_payListed_88 : decode cX2_payListed 88 = .ok (.iload 5, 2) := by decide +kernel
theorem dX2_payListed_90 : decode cX2_payListed 90 = .ok (.bipush 8, 2) := by decide +kernel
theorem dX2_payListed_92 : decode cX2_payListed 92 = .ok (.imul, 1) := by decide +kernel
theorem dX2_payListed_93 : decode cX2_payListed 93 = .ok (.iload 8, 2) := by decide +kernel
theorem dX2_payListed_95 : decode cX2_payListed 95 = .ok (.iadd, 1) := by decide +kernel
theorem dX2_payListed_96 : decode cX2_payListed 96 = .ok (.iaload, 1) := by decide +kernel
theorem dX2_payListed_97 : decode cX2_payListed 97 = .ok (.iconst (-1), 1) := by decide +kernel
theorem dX2_payListed_98 : decode cX2_payListed 98 = .ok (.if_icmp .eq 16, 3) := by decide +kernel
theorem dX2_payListed_101 : decode cX2_payListed 101 = .ok (.iload_n 3, 1) := by decide +kernel
theorem dX2_payListed_102 : decode cX2_payListed 102 = .ok (.aload_n 1, 1) := by decide +kernel
theorem dX2_payListed_103 : decode cX2_payListed 103 = .ok (.getfield 133, 3) := by decide +kernel
theorem dX2_payListed_106 : decode cX2_payListed 106 = .ok (.iload 8, 2) := by decide +kernel
theorem dX2_payListed_108 : decode cX2_payListed 108 = .ok (.iaload, 1) := by decide +kernel
theorem dX2_payListed_109 : decode cX2_payListed 109 = .ok (.iload 7, 2) := by decide +kernel
theorem dX2_payListed_111 : decode cX2_payListed 111 = .ok (.imul, 1) := by decide +kernel
theorem dX2_payListed_112 : decode cX2_payListed 112 = .ok (.iadd, 1) := by decide +kernel
theorem dX2_payListed_113 : decode cX2_payListed 113 = .ok (.istore_n 3, 1) := by decide +kernel
theorem dX2_payListed_114 : decode cX2_payListed 114 = .ok (.iinc 8 1, 3) := by decide +kernel
theorem dX2_payListed_117 : decode cX2_payListed 117 = .ok (.goto (-42), 3) := by decide +kernel
theorem dX2_payListed_120 : decode cX2_payListed 120 = .ok (.iload 6, 2) := by decide +kernel
theorem dX2_payListed_122 : decode cX2_payListed 122 = .ok (.istore 4, 2) := by decide +kernel
theorem dX2_payListed_124 : decode cX2_payListed 124 = .ok (.iinc 5 1, 3) := by decide +kernel
theorem dX2_payListed_127 : decode cX2_payListed 127 = .ok (.goto (-119), 3) := by decide +kernel
theorem dX2_payListed_130 : decode cX2_payListed 130 = .ok (.iload_n 3, 1) := by decide +kernel
theorem dX2_payListed_131 : decode cX2_payListed 131 = .ok (.ireturn, 1) := by decide +kernel
theorem dX2_choose_0 : decode cX2_choose 0 = .ok (.aload_n 0, 1) := by decide +kernel
theorem dX2_choose_1 : decode cX2_choose 1 = .ok (.getfield 47, 3) := by decide +kernel
theorem dX2_choose_4 : decode cX2_choose 4 = .ok (.iload_n 1, 1) := by decide +kernel
theorem dX2_choose_5 : decode cX2_choose 5 = .ok (.invokevirtual 136, 3) := by decide +kernel
theorem dX2_choose_8 : decode cX2_choose 8 = .ok (.aload_n 0, 1) := by decide +kernel
theorem dX2_choose_9 : decode cX2_choose 9 = .ok (.getfield 51, 3) := by decide +kernel
theorem dX2_choose_12 : decode cX2_choose 12 = .ok (.getfield 139, 3) := by decide +kernel
theorem dX2_choose_15 : decode cX2_choose 15 = .ok (.iload_n 1, 1) := by decide +kernel
theorem dX2_choose_16 : decode cX2_choose 16 = .ok (.iaload, 1) := by decide +kernel
theorem dX2_choose_17 : decode cX2_choose 17 = .ok (.istore_n 2, 1) := by decide +kernel
theorem dX2_choose_18 : decode cX2_choose 18 = .ok (.iload_n 2, 1) := by decide +kernel
theorem dX2_choose_19 : decode cX2_choose 19 = .ok (.iconst (-1), 1) := by decide +kernel
theorem dX2_choose_20 : decode cX2_choose 20 = .ok (.if_icmp .eq 11, 3) := by decide +kernel
theorem dX2_choose_23 : decode cX2_choose 23 = .ok (.aload_n 0, 1) := by decide +kernel
theorem dX2_choose_24 : decode cX2_choose 24 = .ok (.getfield 51, 3) := by decide +kernel
theorem dX2_choose_27 : decode cX2_choose 27 = .ok (.iload_n 2, 1) := by decide +kernel
theorem dX2_choose_28 : decode cX2_choose 28 = .ok (.invokevirtual 136, 3) := by decide +kernel
theorem dX2_choose_31 : decode cX2_choose 31 = .ok (.iconst 1, 1) := by decide +kernel
theorem dX2_choose_32 : decode cX2_choose 32 = .ok (.aload_n 0, 1) := by decide +kernel
theorem dX2_choose_33 : decode cX2_choose 33 = .ok (.getfield 54, 3) := by decide +kernel
theorem dX2_choose_36 : decode cX2_choose 36 = .ok (.ishl, 1) := by decide +kernel
theorem dX2_choose_37 : decode cX2_choose 37 = .ok (.iconst 2, 1) := by decide +kernel
theorem dX2_choose_38 : decode cX2_choose 38 = .ok (.iload_n 1, 1) := by decide +kernel
theorem dX2_choose_39 : decode cX2_choose 39 = .ok (.ishl, 1) := by decide +kernel
theorem dX2_choose_40 : decode cX2_choose 40 = .ok (.isub, 1) := by decide +kernel
theorem dX2_choose_41 : decode cX2_choose 41 = .ok (.istore_n 3, 1) := by decide +kernel
theorem dX2_choose_42 : decode cX2_choose 42 = .ok (.aload_n 0, 1) := by decide +kernel
theorem dX2_choose_43 : decode cX2_choose 43 = .ok (.getfield 47, 3) := by decide +kernel
theorem dX2_choose_46 : decode cX2_choose 46 = .ok (.getfield 75, 3) := by decide +kernel
theorem dX2_choose_49 : decode cX2_choose 49 = .ok (.iload_n 1, 1) := by decide +kernel
theorem dX2_choose_50 : decode cX2_choose 50 = .ok (.iaload, 1) := by decide +kernel
theorem dX2_choose_51 : decode cX2_choose 51 = .ok (.aload_n 0, 1) := by decide +kernel
theorem dX2_choose_52 : decode cX2_choose 52 = .ok (.getfield 60, 3) := by decide +kernel
theorem dX2_choose_55 : decode cX2_choose 55 = .ok (.iand, 1) := by decide +kernel
theorem dX2_choose_56 : decode cX2_choose 56 = .ok (.istore 4, 2) := by decide +kernel
theorem dX2_choose_58 : decode cX2_choose 58 = .ok (.iload 4, 2) := by decide +kernel
theorem dX2_choose_60 : decode cX2_choose 60 = .ok (.ifCond .eq 60, 3) := by decide +kernel
theorem dX2_choose_63 : decode cX2_choose 63 = .ok (.iload 4, 2) := by decide +kernel
theorem dX2_choose_65 : decode cX2_choose 65 = .ok (.invokestatic 105, 3) := by decide +kernel
theorem dX2_choose_68 : decode cX2_choose 68 = .ok (.istore 5, 2) := by decide +kernel
theorem dX2_choose_70 : decode cX2_choose 70 = .ok (.aload_n 0, 1) := by decide +kernel
theorem dX2_choose_71 : decode cX2_choose 71 = .ok (.iload 5, 2) := by decide +kernel
theorem dX2_choose_73 : decode cX2_choose 73 = .ok (.iload_n 2, 1) := by decide +kernel
theorem dX2_choose_74 : decode cX2_choose 74 = .ok (.iload_n 3, 1) := by decide +kernel
theorem dX2_choose_75 : decode cX2_choose 75 = .ok (.invokevirtual 142, 3) := by decide +kernel
theorem dX2_choose_78 : decode cX2_choose 78 = .ok (.ifCond .eq 30, 3) := by decide +kernel
theorem dX2_choose_81 : decode cX2_choose 81 = .ok (.aload_n 0, 1) := by decide +kernel
theorem dX2_choose_82 : decode cX2_choose 82 = .ok (.dup, 1) := by decide +kernel
theorem dX2_choose_83 : decode cX2_choose 83 = .ok (.getfield 60, 3) := by decide +kernel
theorem dX2_choose_86 : decode cX2_choose 86 = .ok (.iconst 1, 1) := by decide +kernel
theorem dX2_choose_87 : decode cX2_choose 87 = .ok (.iload 5, 2) := by decide +kernel
theorem dX2_choose_89 : decode cX2_choose 89 = .ok (.ishl, 1) := by decide +kernel
theorem dX2_choose_90 : decode cX2_choose 90 = .ok (.iconst (-1), 1) := by decide +kernel
theorem dX2_choose_91 : decode cX2_choose 91 = .ok (.ixor, 1) := by decide +kernel
theorem dX2_choose_92 : decode cX2_choose 92 = .ok (.iand, 1) := by decide +kernel
theorem dX2_choose_93 : decode cX2_choose 93 = .ok (.putfield 60, 3) := by decide +kernel
theorem dX2_choose_96 : decode cX2_choose 96 = .ok (.aload_n 0, 1) := by decide +kernel
theorem dX2_choose_97 : decode cX2_choose 97 = .ok (.getfield 51, 3) := by decide +kernel
theorem dX2_choose_100 : decode cX2_choose 100 = .ok (.iload 5, 2) := by decide +kernel
theorem dX2_choose_102 : decode cX2_choose 102 = .ok (.invokevirtual 136, 3) := by decide +kernel
theorem dX2_choose_105 : decode cX2_choose 105 = .ok (.iload 5, 2) := by decide +kernel
theorem dX2_choose_107 : decode cX2_choose 107 = .ok (.ireturn, 1) := by decide +kernel
theorem dX2_choose_108 : decode cX2_choose 108 = .ok (.iload 4, 2) := by decide +kernel
theorem dX2_choose_110 : decode cX2_choose 110 = .ok (.iload 4, 2) := by decide +kernel
theorem dX2_choose_112 : decode cX2_choose 112 = .ok (.iconst 1, 1) := by decide +kernel
theorem dX2_choose_113 : decode cX2_choose 113 = .ok (.isub, 1) := by decide +kernel
theorem dX2_choose_114 : decode cX2_choose 114 = .ok (.iand, 1) := by decide +kernel
theorem dX2_choose_115 : decode cX2_choose 115 = .ok (.istore 4, 2) := by decide +kernel
theorem dX2_choose_117 : decode cX2_choose 117 = .ok (.goto (-59), 3) := by decide +kernel
theorem dX2_choose_120 : decode cX2_choose 120 = .ok (.iload_n 2, 1) := by decide +kernel
theorem dX2_choose_121 : decode cX2_choose 121 = .ok (.iconst (-1), 1) := by decide +kernel
theorem dX2_choose_122 : decode cX2_choose 122 = .ok (.if_icmp .eq 13, 3) := by decide +kernel
theorem dX2_choose_125 : decode cX2_choose 125 = .ok (.aload_n 0, 1) := by decide +kernel
theorem dX2_choose_126 : decode cX2_choose 126 = .ok (.getfield 51, 3) := by decide +kernel
theorem dX2_choose_129 : decode cX2_choose 129 = .ok (.iload_n 2, 1) := by decide +kernel
theorem dX2_choose_130 : decode cX2_choose 130 = .ok (.iload_n 3, 1) := by decide +kernel
theorem dX2_choose_131 : decode cX2_choose 131 = .ok (.invokevirtual 94, 3) := by decide +kernel
theorem dX2_choose_134 : decode cX2_choose 134 = .ok (.pop, 1) := by decide +kernel
theorem dX2_choose_135 : decode cX2_choose 135 = .ok (.iconst (-1), 1) := by decide +kernel
theorem dX2_choose_136 : decode cX2_choose 136 = .ok (.ireturn, 1) := by decide +kernel
theorem dX2_canSpare_0 : decode cX2_canSpare 0 = .ok (.aload_n 0, 1) := by decide +kernel
theorem dX2_canSpare_1 : decode cX2_canSpare 1 = .ok (.getfield 47, 3) := by decide +kernel
theorem dX2_canSpare_4 : decode cX2_canSpare 4 = .ok (.getfield 139, 3) := by decide +kernel
theorem dX2_canSpare_7 : decode cX2_canSpare 7 = .ok (.iload_n 1, 1) := by decide +kernel
theorem dX2_canSpare_8 : decode cX2_canSpare 8 = .ok (.iaload, 1) := by decide +kernel
theorem dX2_canSpare_9 : decode cX2_canSpare 9 = .ok (.istore 4, 2) := by decide +kernel
theorem dX2_canSpare_11 : decode cX2_canSpare 11 = .ok (.iload 4, 2) := by decide +kernel
theorem dX2_canSpare_13 : decode cX2_canSpare 13 = .ok (.iconst (-1), 1) := by decide +kernel
theorem dX2_canSpare_14 : decode cX2_canSpare 14 = .ok (.if_icmp .eq 46, 3) := by decide +kernel
theorem dX2_canSpare_17 : decode cX2_canSpare 17 = .ok (.aload_n 0, 1) := by decide +kernel
theorem dX2_canSpare_18 : decode cX2_canSpare 18 = .ok (.getfield 47, 3) := by decide +kernel
theorem dX2_canSpare_21 : decode cX2_canSpare 21 = .ok (.iload 4, 2) := by decide +kernel
theorem dX2_canSpare_23 : decode cX2_canSpare 23 = .ok (.invokevirtual 136, 3) := by decide +kernel
theorem dX2_canSpare_26 : decode cX2_canSpare 26 = .ok (.aload_n 0, 1) := by decide +kernel
theorem dX2_canSpare_27 : decode cX2_canSpare 27 = .ok (.getfield 47, 3) := by decide +kernel
theorem dX2_canSpare_30 : decode cX2_canSpare 30 = .ok (.iload 4, 2) := by decide +kernel
theorem dX2_canSpare_32 : decode cX2_canSpare 32 = .ok (.aload_n 0, 1) := by decide +kernel
theorem dX2_canSpare_33 : decode cX2_canSpare 33 = .ok (.getfield 60, 3) := by decide +kernel
theorem dX2_canSpare_36 : decode cX2_canSpare 36 = .ok (.iconst 1, 1) := by decide +kernel
theorem dX2_canSpare_37 : decode cX2_canSpare 37 = .ok (.iload_n 1, 1) := by decide +kernel
theorem dX2_canSpare_38 : decode cX2_canSpare 38 = .ok (.ishl, 1) := by decide +kernel
theorem dX2_canSpare_39 : decode cX2_canSpare 39 = .ok (.iconst (-1), 1) := by decide +kernel
theorem dX2_canSpare_40 : decode cX2_canSpare 40 = .ok (.ixor, 1) := by decide +kernel
theorem dX2_canSpare_41 : decode cX2_canSpare 41 = .ok (.iand, 1) := by decide +kernel
theorem dX2_canSpare_42 : decode cX2_canSpare 42 = .ok (.invokevirtual 94, 3) := by decide +kernel
theorem dX2_canSpare_45 : decode cX2_canSpare 45 = .ok (.ifCond .ne 15, 3) := by decide +kernel
theorem dX2_canSpare_48 : decode cX2_canSpare 48 = .ok (.aload_n 0, 1) := by decide +kernel
theorem dX2_canSpare_49 : decode cX2_canSpare 49 = .ok (.getfield 47, 3) := by decide +kernel
theorem dX2_canSpare_52 : decode cX2_canSpare 52 = .ok (.iload 4, 2) := by decide +kernel
theorem dX2_canSpare_54 : decode cX2_canSpare 54 = .ok (.iload_n 1, 1) := by decide +kernel
theorem dX2_canSpare_55 : decode cX2_canSpare 55 = .ok (.invokevirtual 146, 3) := by decide +kernel
theorem dX2_canSpare_58 : decode cX2_canSpare 58 = .ok (.iconst 0, 1) := by decide +kernel
theorem dX2_canSpare_59 : decode cX2_canSpare 59 = .ok (.ireturn, 1) := by decide +kernel
theorem dX2_canSpare_60 : decode cX2_canSpare 60 = .ok (.iload_n 2, 1) := by decide +kernel
theorem dX2_canSpare_61 : decode cX2_canSpare 61 = .ok (.iconst (-1), 1) := by decide +kernel
theorem dX2_canSpare_62 : decode cX2_canSpare 62 = .ok (.if_icmp .eq 8, 3) := by decide +kernel
theorem dX2_canSpare_65 : decode cX2_canSpare 65 = .ok (.iload_n 2, 1) := by decide +kernel
theorem dX2_canSpare_66 : decode cX2_canSpare 66 = .ok (.iload_n 1, 1) := by decide +kernel
theorem dX2_canSpare_67 : decode cX2_canSpare 67 = .ok (.if_icmp .ne 5, 3) := by decide +kernel
theorem dX2_canSpare_70 : decode cX2_canSpare 70 = .ok (.iconst 1, 1) := by decide +kernel
theorem dX2_canSpare_71 : decode cX2_canSpare 71 = .ok (.ireturn, 1) := by decide +kernel
theorem dX2_canSpare_72 : decode cX2_canSpare 72 = .ok (.aload_n 0, 1) := by decide +kernel
theorem dX2_canSpare_73 : decode cX2_canSpare 73 = .ok (.getfield 51, 3) := by decide +kernel
theorem dX2_canSpare_76 : decode cX2_canSpare 76 = .ok (.getfield 150, 3) := by decide +kernel
theorem dX2_canSpare_79 : decode cX2_canSpare 79 = .ok (.iload_n 1, 1) := by decide +kernel
theorem dX2_canSpare_80 : decode cX2_canSpare 80 = .ok (.iaload, 1) := by decide +kernel
theorem dX2_canSpare_81 : decode cX2_canSpare 81 = .ok (.istore 5, 2) := by decide +kernel
theorem dX2_canSpare_83 : decode cX2_canSpare 83 = .ok (.aload_n 0, 1) := by decide +kernel
theorem dX2_canSpare_84 : decode cX2_canSpare 84 = .ok (.getfield 51, 3) := by decide +kernel
theorem dX2_canSpare_87 : decode cX2_canSpare 87 = .ok (.iload_n 1, 1) := by decide +kernel
theorem dX2_canSpare_88 : decode cX2_canSpare 88 = .ok (.invokevirtual 136, 3) := by decide +kernel
theorem dX2_canSpare_91 : decode cX2_canSpare 91 = .ok (.aload_n 0, 1) := by decide +kernel
theorem dX2_canSpare_92 : decode cX2_canSpare 92 = .ok (.getfield 51, 3) := by decide +kernel
theorem dX2_canSpare_95 : decode cX2_canSpare 95 = .ok (.iload_n 2, 1) := by decide +kernel
theorem dX2_canSpare_96 : decode cX2_canSpare 96 = .ok (.iload_n 3, 1) := by decide +kernel
theorem dX2_canSpare_97 : decode cX2_canSpare 97 = .ok (.invokevirtual 94, 3) := by decide +kernel
theorem dX2_canSpare_100 : decode cX2_canSpare 100 = .ok (.ifCond .eq 5, 3) := by decide +kernel
theorem dX2_canSpare_103 : decode cX2_canSpare 103 = .ok (.iconst 1, 1) := by decide +kernel
theorem dX2_canSpare_104 : decode cX2_canSpare 104 = .ok (.ireturn, 1) := by decide +kernel
theorem dX2_canSpare_105 : decode cX2_canSpare 105 = .ok (.iload 5, 2) := by decide +kernel
theorem dX2_canSpare_107 : decode cX2_canSpare 107 = .ok (.iconst (-1), 1) := by decide +kernel
theorem dX2_canSpare_108 : decode cX2_canSpare 108 = .ok (.if_icmp .eq 13, 3) := by decide +kernel
theorem dX2_canSpare_111 : decode cX2_canSpare 111 = .ok (.aload_n 0, 1) := by decide +kernel
theorem dX2_canSpare_112 : decode cX2_canSpare 112 = .ok (.getfield 51, 3) := by decide +kernel
theorem dX2_canSpare_115 : decode cX2_canSpare 115 = .ok (.iload_n 1, 1) := by decide +kernel
theorem dX2_canSpare_116 : decode cX2_canSpare 116 = .ok (.iload 5, 2) := by decide +kernel
theorem dX2_canSpare_118 : decode cX2_canSpare 118 = .ok (.invokevirtual 146, 3) := by decide +kernel
theorem dX2_canSpare_121 : decode cX2_canSpare 121 = .ok (.iconst 0, 1) := by decide +kernel
theorem dX2_canSpare_122 : decode cX2_canSpare 122 = .ok (.ireturn, 1) := by decide +kernel
theorem dX2_greatestOf_0 : decode cX2_greatestOf 0 = .ok (.iconst 0, 1) := by decide +kernel
theorem dX2_greatestOf_1 : decode cX2_greatestOf 1 = .ok (.istore_n 1, 1) := by decide +kernel
theorem dX2_greatestOf_2 : decode cX2_greatestOf 2 = .ok (.aload_n 0, 1) := by decide +kernel
theorem dX2_greatestOf_3 : decode cX2_greatestOf 3 = .ok (.astore_n 2, 1) := by decide +kernel
theorem dX2_greatestOf_4 : decode cX2_greatestOf 4 = .ok (.aload_n 2, 1) := by decide +kernel
theorem dX2_greatestOf_5 : decode cX2_greatestOf 5 = .ok (.arraylength, 1) := by decide +kernel
theorem dX2_greatestOf_6 : decode cX2_greatestOf 6 = .ok (.istore_n 3, 1) := by decide +kernel
theorem dX2_greatestOf_7 : decode cX2_greatestOf 7 = .ok (.iconst 0, 1) := by decide +kernel
theorem dX2_greatestOf_8 : decode cX2_greatestOf 8 = .ok (.istore 4, 2) := by decide +kernel
theorem dX2_greatestOf_10 : decode cX2_greatestOf 10 = .ok (.iload 4, 2) := by decide +kernel
theorem dX2_greatestOf_12 : decode cX2_greatestOf 12 = .ok (.iload_n 3, 1) := by decide +kernel
theorem dX2_greatestOf_13 : decode cX2_greatestOf 13 = .ok (.if_icmp .ge 22, 3) := by decide +kernel
theorem dX2_greatestOf_16 : decode cX2_greatestOf 16 = .ok (.aload_n 2, 1) := by decide +kernel
theorem dX2_greatestOf_17 : decode cX2_greatestOf 17 = .ok (.iload 4, 2) := by decide +kernel
theorem dX2_greatestOf_19 : decode cX2_greatestOf 19 = .ok (.iaload, 1) := by decide +kernel
theorem dX2_greatestOf_20 : decode cX2_greatestOf 20 = .ok (.istore 5, 2) := by decide +kernel
theorem dX2_greatestOf_22 : decode cX2_greatestOf 22 = .ok (.iload_n 1, 1) := by decide +kernel
theorem dX2_greatestOf_23 : decode cX2_greatestOf 23 = .ok (.iload 5, 2) := by decide +kernel
theorem dX2_greatestOf_25 : decode cX2_greatestOf 25 = .ok (.invokestatic 86, 3) := by decide +kernel
theorem dX2_greatestOf_28 : decode cX2_greatestOf 28 = .ok (.istore_n 1, 1) := by decide +kernel
theorem dX2_greatestOf_29 : decode cX2_greatestOf 29 = .ok (.iinc 4 1, 3) := by decide +kernel
theorem dX2_greatestOf_32 : decode cX2_greatestOf 32 = .ok (.goto (-22), 3) := by decide +kernel
theorem dX2_greatestOf_35 : decode cX2_greatestOf 35 = .ok (.iload_n 1, 1) := by decide +kernel
theorem dX2_greatestOf_36 : decode cX2_greatestOf 36 = .ok (.ireturn, 1) := by decide +kernel
theorem dX3_init_0 : decode cX3_init 0 = .ok (.aload_n 0, 1) := by decide +kernel
theorem dX3_init_1 : decode cX3_init 1 = .ok (.invokespecial 3, 3) := by decide +kernel
theorem dX3_init_4 : decode cX3_init 4 = .ok (.aload_n 0, 1) := by decide +kernel
theorem dX3_init_5 : decode cX3_init 5 = .ok (.bipush 80, 2) := by decide +kernel
theorem dX3_init_7 : decode cX3_init 7 = .ok (.newarray .int, 2) := by decide +kernel
theorem dX3_init_9 : decode cX3_init 9 = .ok (.putfield 9, 3) := by decide +kernel
theorem dX3_init_12 : decode cX3_init 12 = .ok (.aload_n 0, 1) := by decide +kernel
theorem dX3_init_13 : decode cX3_init 13 = .ok (.iconst 0, 1) := by decide +kernel
theorem dX3_init_14 : decode cX3_init 14 = .ok (.putfield 15, 3) := by decide +kernel
theorem dX3_init_17 : decode cX3_init 17 = .ok (.aload_n 0, 1) := by decide +kernel
theorem dX3_init_18 : decode cX3_init 18 = .ok (.iconst 0, 1) := by decide +kernel
theorem dX3_init_19 : decode cX3_init 19 = .ok (.putfield 19, 3) := by decide +kernel
theorem dX3_init_22 : decode cX3_init 22 = .ok (.aload_n 0, 1) := by decide +kernel
theorem dX3_init_23 : decode cX3_init 23 = .ok (.iconst 0, 1) := by decide +kernel
theorem dX3_init_24 : decode cX3_init 24 = .ok (.putfield 22, 3) := by decide +kernel
theorem dX3_init_27 : decode cX3_init 27 = .ok (.return_, 1) := by decide +kernel
theorem dX3_begin_0 : decode cX3_begin 0 = .ok (.aload_n 1, 1) := by decide +kernel
theorem dX3_begin_1 : decode cX3_begin 1 = .ok (.getfield 25, 3) := by decide +kernel
theorem dX3_begin_4 : decode cX3_begin 4 = .ok (.iconst 0, 1) := by decide +kernel
theorem dX3_begin_5 : decode cX3_begin 5 = .ok (.aload_n 0, 1) := by decide +kernel
theorem dX3_begin_6 : decode cX3_begin 6 = .ok (.getfield 9, 3) := by decide +kernel
theorem dX3_begin_9 : decode cX3_begin 9 = .ok (.iconst 0, 1) := by decide +kernel
theorem dX3_begin_10 : decode cX3_begin 10 = .ok (.bipush 80, 2) := by decide +kernel
theorem dX3_begin_12 : decode cX3_begin 12 = .ok (.invokestatic 30, 3) := by decide +kernel
theorem dX3_begin_15 : decode cX3_begin 15 = .ok (.aload_n 0, 1) := by decide +kernel
theorem dX3_begin_16 : decode cX3_begin 16 = .ok (.aload_n 1, 1) := by decide +kernel
theorem dX3_begin_17 : decode cX3_begin 17 = .ok (.getfield 36, 3) := by decide +kernel
theorem dX3_begin_20 : decode cX3_begin 20 = .ok (.putfield 15, 3) := by decide +kernel
theorem dX3_begin_23 : decode cX3_begin 23 = .ok (.aload_n 0, 1) := by decide +kernel
theorem dX3_begin_24 : decode cX3_begin 24 = .ok (.aload_n 1, 1) := by decide +kernel
theorem dX3_begin_25 : decode cX3_begin 25 = .ok (.getfield 37, 3) := by decide +kernel
theorem dX3_begin_28 : decode cX3_begin 28 = .ok (.putfield 19, 3) := by decide +kernel
theorem dX3_begin_31 : decode cX3_begin 31 = .ok (.aload_n 0, 1) := by decide +kernel
theorem dX3_begin_32 : decode cX3_begin 32 = .ok (.iconst 0, 1) := by decide +kernel
theorem dX3_begin_33 : decode cX3_begin 33 = .ok (.putfield 22, 3) := by decide +kernel
theorem dX3_begin_36 : decode cX3_begin 36 = .ok (.return_, 1) := by decide +kernel
theorem dX3_ofSmith_0 : decode cX3_ofSmith 0 = .ok (.iconst 0, 1) := by decide +kernel
theorem dX3_ofSmith_1 : decode cX3_ofSmith 1 = .ok (.istore_n 2, 1) := by decide +kernel
theorem dX3_ofSmith_2 : decode cX3_ofSmith 2 = .ok (.iconst 0, 1) := by decide +kernel
theorem dX3_ofSmith_3 : decode cX3_ofSmith 3 = .ok (.istore_n 3, 1) := by decide +kernel
theorem dX3_ofSmith_4 : decode cX3_ofSmith 4 = .ok (.iload_n 3, 1) := by decide +kernel
theorem dX3_ofSmith_5 : decode cX3_ofSmith 5 = .ok (.aload_n 0, 1) := by decide +kernel
theorem dX3_ofSmith_6 : decode cX3_ofSmith 6 = .ok (.getfield 19, 3) := by decide +kernel
theorem dX3_ofSmith_9 : decode cX3_ofSmith 9 = .ok (.if_icmp .ge 22, 3) := by decide +kernel
theorem dX3_ofSmith_12 : decode cX3_ofSmith 12 = .ok (.iload_n 2, 1) := by decide +kernel
theorem dX3_ofSmith_13 : decode cX3_ofSmith 13 = .ok (.aload_n 0, 1) := by decide +kernel
theorem dX3_ofSmith_14 : decode cX3_ofSmith 14 = .ok (.getfield 9, 3) := by decide +kernel
theorem dX3_ofSmith_17 : decode cX3_ofSmith 17 = .ok (.iload_n 1, 1) := by decide +kernel
theorem dX3_ofSmith_18 : decode cX3_ofSmith 18 = .ok (.iload_n 3, 1) := by decide +kernel
theorem dX3_ofSmith_19 : decode cX3_ofSmith 19 = .ok (.invokestatic 38, 3) := by decide +kernel
theorem dX3_ofSmith_22 : decode cX3_ofSmith 22 = .ok (.iaload, 1) := by decide +kernel
theorem dX3_ofSmith_23 : decode cX3_ofSmith 23 = .ok (.iadd, 1) := by decide +kernel
theorem dX3_ofSmith_24 : decode cX3_ofSmith 24 = .ok (.istore_n 2, 1) := by decide +kernel
theorem dX3_ofSmith_25 : decode cX3_ofSmith 25 = .ok (.iinc 3 1, 3) := by decide +kernel
theorem dX3_ofSmith_28 : decode cX3_ofSmith 28 = .ok (.goto (-24), 3) := by decide +kernel
theorem dX3_ofSmith_31 : decode cX3_ofSmith 31 = .ok (.iload_n 2, 1) := by decide +kernel
theorem dX3_ofSmith_32 : decode cX3_ofSmith 32 = .ok (.ireturn, 1) := by decide +kernel
theorem dX3_ofHorse_0 : decode cX3_ofHorse 0 = .ok (.iconst 0, 1) := by decide +kernel
theorem dX3_ofHorse_1 : decode cX3_ofHorse 1 = .ok (.istore_n 2, 1) := by decide +kernel
theorem dX3_ofHorse_2 : decode cX3_ofHorse 2 = .ok (.iconst 0, 1) := by decide +kernel
theorem dX3_ofHorse_3 : decode cX3_ofHorse 3 = .ok (.istore_n 3, 1) := by decide +kernel
theorem dX3_ofHorse_4 : decode cX3_ofHorse 4 = .ok (.iload_n 3, 1) := by decide +kernel
theorem dX3_ofHorse_5 : decode cX3_ofHorse 5 = .ok (.aload_n 0, 1) := by decide +kernel
theorem dX3_ofHorse_6 : decode cX3_ofHorse 6 = .ok (.getfield 15, 3) := by decide +kernel
theorem dX3_ofHorse_9 : decode cX3_ofHorse 9 = .ok (.if_icmp .ge 22, 3) := by decide +kernel
theorem dX3_ofHorse_12 : decode cX3_ofHorse 12 = .ok (.iload_n 2, 1) := by decide +kernel
theorem dX3_ofHorse_13 : decode cX3_ofHorse 13 = .ok (.aload_n 0, 1) := by decide +kernel
theorem dX3_ofHorse_14 : decode cX3_ofHorse 14 = .ok (.getfield 9, 3) := by decide +kernel
theorem dX3_ofHorse_17 : decode cX3_ofHorse 17 = .ok (.iload_n 3, 1) := by decide +kernel
theorem dX3_ofHorse_18 : decode cX3_ofHorse 18 = .ok (.iload_n 1, 1) := by decide +kernel
theorem dX3_ofHorse_19 : decode cX3_ofHorse 19 = .ok (.invokestatic 38, 3) := by decide +kernel
theorem dX3_ofHorse_22 : decode cX3_ofHorse 22 = .ok (.iaload, 1) := by decide +kernel
theorem dX3_ofHorse_23 : decode cX3_ofHorse 23 = .ok (.iadd, 1) := by decide +kernel
theorem dX3_ofHorse_24 : decode cX3_ofHorse 24 = .ok (.istore_n 2, 1) := by decide +kernel
theorem dX3_ofHorse_25 : decode cX3_ofHorse 25 = .ok (.iinc 3 1, 3) := by decide +kernel
theorem dX3_ofHorse_28 : decode cX3_ofHorse 28 = .ok (.goto (-24), 3) := by decide +kernel
theorem dX3_ofHorse_31 : decode cX3_ofHorse 31 = .ok (.iload_n 2, 1) := by decide +kernel
theorem dX3_ofHorse_32 : decode cX3_ofHorse 32 = .ok (.ireturn, 1) := by decide +kernel
theorem dX3_greatest_0 : decode cX3_greatest 0 = .ok (.iconst 0, 1) := by decide +kernel
theorem dX3_greatest_1 : decode cX3_greatest 1 = .ok (.istore_n 1, 1) := by decide +kernel
theorem dX3_greatest_2 : decode cX3_greatest 2 = .ok (.iconst 0, 1) := by decide +kernel
theorem dX3_greatest_3 : decode cX3_greatest 3 = .ok (.istore_n 2, 1) := by decide +kernel
theorem dX3_greatest_4 : decode cX3_greatest 4 = .ok (.iload_n 2, 1) := by decide +kernel
theorem dX3_greatest_5 : decode cX3_greatest 5 = .ok (.aload_n 0, 1) := by decide +kernel
theorem dX3_greatest_6 : decode cX3_greatest 6 = .ok (.getfield 15, 3) := by decide +kernel
theorem dX3_greatest_9 : decode cX3_greatest 9 = .ok (.if_icmp .ge 19, 3) := by decide +kernel
theorem dX3_greatest_12 : decode cX3_greatest 12 = .ok (.iload_n 1, 1) := by decide +kernel
theorem dX3_greatest_13 : decode cX3_greatest 13 = .ok (.aload_n 0, 1) := by decide +kernel
theorem dX3_greatest_14 : decode cX3_greatest 14 = .ok (.iload_n 2, 1) := by decide +kernel
theorem dX3_greatest_15 : decode cX3_greatest 15 = .ok (.invokevirtual 42, 3) := by decide +kernel
theorem dX3_greatest_18 : decode cX3_greatest 18 = .ok (.invokestatic 46, 3) := by decide +kernel
theorem dX3_greatest_21 : decode cX3_greatest 21 = .ok (.istore_n 1, 1) := by decide +kernel
theorem dX3_greatest_22 : decode cX3_greatest 22 = .ok (.iinc 2 1, 3) := by decide +kernel
theorem dX3_greatest_25 : decode cX3_greatest 25 = .ok (.goto (-21), 3) := by decide +kernel
theorem dX3_greatest_28 : decode cX3_greatest 28 = .ok (.iconst 0, 1) := by decide +kernel
theorem dX3_greatest_29 : decode cX3_greatest 29 = .ok (.istore_n 2, 1) := by decide +kernel
theorem dX3_greatest_30 : decode cX3_greatest 30 = .ok (.iload_n 2, 1) := by decide +kernel
theorem dX3_greatest_31 : decode cX3_greatest 31 = .ok (.aload_n 0, 1) := by decide +kernel
theorem dX3_greatest_32 : decode cX3_greatest 32 = .ok (.getfield 19, 3) := by decide +kernel
theorem dX3_greatest_35 : decode cX3_greatest 35 = .ok (.if_icmp .ge 19, 3) := by decide +kernel
theorem dX3_greatest_38 : decode cX3_greatest 38 = .ok (.iload_n 1, 1) := by decide +kernel
theorem dX3_greatest_39 : decode cX3_greatest 39 = .ok (.aload_n 0, 1) := by decide +kernel
theorem dX3_greatest_40 : decode cX3_greatest 40 = .ok (.iload_n 2, 1) := by decide +kernel
theorem dX3_greatest_41 : decode cX3_greatest 41 = .ok (.invokevirtual 51, 3) := by decide +kernel
theorem dX3_greatest_44 : decode cX3_greatest 44 = .ok (.invokestatic 46, 3) := by decide +kernel
theorem dX3_greatest_47 : decode cX3_greatest 47 = .ok (.istore_n 1, 1) := by decide +kernel
theorem dX3_greatest_48 : decode cX3_greatest 48 = .ok (.iinc 2 1, 3) := by decide +kernel
theorem dX3_greatest_51 : decode cX3_greatest 51 = .ok (.goto (-21), 3) := by decide +kernel
theorem dX3_greatest_54 : decode cX3_greatest 54 = .ok (.iload_n 1, 1) := by decide +kernel
theorem dX3_greatest_55 : decode cX3_greatest 55 = .ok (.ireturn, 1) := by decide +kernel
theorem dX3_together_0 : decode cX3_together 0 = .ok (.iconst 0, 1) := by decide +kernel
theorem dX3_together_1 : decode cX3_together 1 = .ok (.istore_n 1, 1) := by decide +kernel
theorem dX3_together_2 : decode cX3_together 2 = .ok (.iconst 0, 1) := by decide +kernel
theorem dX3_together_3 : decode cX3_together 3 = .ok (.istore_n 2, 1) := by decide +kernel
theorem dX3_together_4 : decode cX3_together 4 = .ok (.iload_n 2, 1) := by decide +kernel
theorem dX3_together_5 : decode cX3_together 5 = .ok (.aload_n 0, 1) := by decide +kernel
theorem dX3_together_6 : decode cX3_together 6 = .ok (.getfield 15, 3) := by decide +kernel
theorem dX3_together_9 : decode cX3_together 9 = .ok (.if_icmp .ge 17, 3) := by decide +kernel
theorem dX3_together_12 : decode cX3_together 12 = .ok (.iload_n 1, 1) := by decide +kernel
theorem dX3_together_13 : decode cX3_together 13 = .ok (.aload_n 0, 1) := by decide +kernel
theorem dX3_together_14 : decode cX3_together 14 = .ok (.iload_n 2, 1) := by decide +kernel
theorem dX3_together_15 : decode cX3_together 15 = .ok (.invokevirtual 42, 3) := by decide +kernel
theorem dX3_together_18 : decode cX3_together 18 = .ok (.iadd, 1) := by decide +kernel
theorem dX3_together_19 : decode cX3_together 19 = .ok (.istore_n 1, 1) := by decide +kernel
theorem dX3_together_20 : decode cX3_together 20 = .ok (.iinc 2 1, 3) := by decide +kernel
theorem dX3_together_23 : decode cX3_together 23 = .ok (.goto (-19), 3) := by decide +kernel
theorem dX3_together_26 : decode cX3_together 26 = .ok (.iload_n 1, 1) := by decide +kernel
theorem dX3_together_27 : decode cX3_together 27 = .ok (.ireturn, 1) := by decide +kernel
theorem dX3_canHandOver_0 : decode cX3_canHandOver 0 = .ok (.iconst 0, 1) := by decide +kernel
theorem dX3_canHandOver_1 : decode cX3_canHandOver 1 = .ok (.istore_n 3, 1) := by decide +kernel
theorem dX3_canHandOver_2 : decode cX3_canHandOver 2 = .ok (.iload_n 3, 1) := by decide +kernel
theorem dX3_canHandOver_3 : decode cX3_canHandOver 3 = .ok (.aload_n 0, 1) := by decide +kernel
theorem dX3_canHandOver_4 : decode cX3_canHandOver 4 = .ok (.getfield 19, 3) := by decide +kernel
theorem dX3_canHandOver_7 : decode cX3_canHandOver 7 = .ok (.if_icmp .ge 37, 3) := by decide +kernel
theorem dX3_canHandOver_10 : decode cX3_canHandOver 10 = .ok (.aload_n 0, 1) := by decide +kernel
theorem dX3_canHandOver_11 : decode cX3_canHandOver 11 = .ok (.getfield 9, 3) := by decide +kernel
theorem dX3_canHandOver_14 : decode cX3_canHandOver 14 = .ok (.iload_n 1, 1) := by decide +kernel
theorem dX3_canHandOver_15 : decode cX3_canHandOver 15 = .ok (.iload_n 3, 1) := by decide +kernel
theorem dX3_canHandOver_16 : decode cX3_canHandOver 16 = .ok (.invokestatic 38, 3) := by decide +kernel
theorem dX3_canHandOver_19 : decode cX3_canHandOver 19 = .ok (.iaload, 1) := by decide +kernel
theorem dX3_canHandOver_20 : decode cX3_canHandOver 20 = .ok (.aload_n 0, 1) := by decide +kernel
theorem dX3_canHandOver_21 : decode cX3_canHandOver 21 = .ok (.getfield 9, 3) := by decide +kernel
theorem dX3_canHandOver_24 : decode cX3_canHandOver 24 = .ok (.iload_n 2, 1) := by decide +kernel
theorem dX3_canHandOver_25 : decode cX3_canHandOver 25 = .ok (.iload_n 3, 1) := by decide +kernel
theorem dX3_canHandOver_26 : decode cX3_canHandOver 26 = .ok (.invokestatic 38, 3) := by decide +kernel
theorem dX3_canHandOver_29 : decode cX3_canHandOver 29 = .ok (.iaload, 1) := by decide +kernel
theorem dX3_canHandOver_30 : decode cX3_canHandOver 30 = .ok (.iadd, 1) := by decide +kernel
theorem dX3_canHandOver_31 : decode cX3_canHandOver 31 = .ok (.bipush 99, 2) := by decide +kernel
theorem dX3_canHandOver_33 : decode cX3_canHandOver 33 = .ok (.if_icmp .le 5, 3) := by decide +kernel
theorem dX3_canHandOver_36 : decode cX3_canHandOver 36 = .ok (.iconst 0, 1) := by decide +kernel
theorem dX3_canHandOver_37 : decode cX3_canHandOver 37 = .ok (.ireturn, 1) := by decide +kernel
theorem dX3_canHandOver_38 : decode cX3_canHandOver 38 = .ok (.iinc 3 1, 3) := by decide +kernel
theorem dX3_canHandOver_41 : decode cX3_canHandOver 41 = .ok (.goto (-39), 3) := by decide +kernel
theorem dX3_canHandOver_44 : decode cX3_canHandOver 44 = .ok (.iconst 1, 1) := by decide +kernel
theorem dX3_canHandOver_45 : decode cX3_canHandOver 45 = .ok (.ireturn, 1) := by decide +kernel
theorem dX3_handOver_0 : decode cX3_handOver 0 = .ok (.iconst 0, 1) := by decide +kernel
theorem dX3_handOver_1 : decode cX3_handOver 1 = .ok (.istore_n 3, 1) := by decide +kernel
theorem dX3_handOver_2 : decode cX3_handOver 2 = .ok (.iconst 0, 1) := by decide +kernel
theorem dX3_handOver_3 : decode cX3_handOver 3 = .ok (.istore 4, 2) := by decide +kernel
theorem dX3_handOver_5 : decode cX3_handOver 5 = .ok (.iload 4, 2) := by decide +kernel
theorem dX3_handOver_7 : decode cX3_handOver 7 = .ok (.aload_n 0, 1) := by decide +kernel
theorem dX3_handOver_8 : decode cX3_handOver 8 = .ok (.getfield 19, 3) := by decide +kernel
theorem dX3_handOver_11 : decode cX3_handOver 11 = .ok (.if_icmp .ge 56, 3) := by decide +kernel
theorem dX3_handOver_14 : decode cX3_handOver 14 = .ok (.iload_n 1, 1) := by decide +kernel
theorem dX3_handOver_15 : decode cX3_handOver 15 = .ok (.iload 4, 2) := by decide +kernel
theorem dX3_handOver_17 : decode cX3_handOver 17 = .ok (.invokestatic 38, 3) := by decide +kernel
theorem dX3_handOver_20 : decode cX3_handOver 20 = .ok (.istore 5, 2) := by decide +kernel
theorem dX3_handOver_22 : decode cX3_handOver 22 = .ok (.iload_n 3, 1) := by decide +kernel
theorem dX3_handOver_23 : decode cX3_handOver 23 = .ok (.aload_n 0, 1) := by decide +kernel
theorem dX3_handOver_24 : decode cX3_handOver 24 = .ok (.getfield 9, 3) := by decide +kernel
theorem dX3_handOver_27 : decode cX3_handOver 27 = .ok (.iload 5, 2) := by decide +kernel
theorem dX3_handOver_29 : decode cX3_handOver 29 = .ok (.iaload, 1) := by decide +kernel
theorem dX3_handOver_30 : decode cX3_handOver 30 = .ok (.iadd, 1) := by decide +kernel
theorem dX3_handOver_31 : decode cX3_handOver 31 = .ok (.istore_n 3, 1) := by decide +kernel
theorem dX3_handOver_32 : decode cX3_handOver 32 = .ok (.aload_n 0, 1) := by decide +kernel
theorem dX3_handOver_33 : decode cX3_handOver 33 = .ok (.getfield 9, 3) := by decide +kernel
theorem dX3_handOver_36 : decode cX3_handOver 36 = .ok (.iload_n 2, 1) := by decide +kernel
theorem dX3_handOver_37 : decode cX3_handOver 37 = .ok (.iload 4, 2) := by decide +kernel
theorem dX3_handOver_39 : decode cX3_handOver 39 = .ok (.invokestatic 38, 3) := by decide +kernel
theorem dX3_handOver_42 : decode cX3_handOver 42 = .ok (.dup2, 1) := by decide +kernel
theorem dX3_handOver_43 : decode cX3_handOver 43 = .ok (.iaload, 1) := by decide +kernel
theorem dX3_handOver_44 : decode cX3_handOver 44 = .ok (.aload_n 0, 1) := by decide +kernel
theorem dX3_handOver_45 : decode cX3_handOver 45 = .ok (.getfield 9, 3) := by decide +kernel
theorem dX3_handOver_48 : decode cX3_handOver 48 = .ok (.iload 5, 2) := by decide +kernel
theorem dX3_handOver_50 : decode cX3_handOver 50 = .ok (.iaload, 1) := by decide +kernel
theorem dX3_handOver_51 : decode cX3_handOver 51 = .ok (.iadd, 1) := by decide +kernel
theorem dX3_handOver_52 : decode cX3_handOver 52 = .ok (.iastore, 1) := by decide +kernel
theorem dX3_handOver_53 : decode cX3_handOver 53 = .ok (.aload_n 0, 1) := by decide +kernel
theorem dX3_handOver_54 : decode cX3_handOver 54 = .ok (.getfield 9, 3) := by decide +kernel
theorem dX3_handOver_57 : decode cX3_handOver 57 = .ok (.iload 5, 2) := by decide +kernel
theorem dX3_handOver_59 : decode cX3_handOver 59 = .ok (.iconst 0, 1) := by decide +kernel
theorem dX3_handOver_60 : decode cX3_handOver 60 = .ok (.iastore, 1) := by decide +kernel
theorem dX3_handOver_61 : decode cX3_handOver 61 = .ok (.iinc 4 1, 3) := by decide +kernel
theorem dX3_handOver_64 : decode cX3_handOver 64 = .ok (.goto (-59), 3) := by decide +kernel
theorem dX3_handOver_67 : decode cX3_handOver 67 = .ok (.iload_n 3, 1) := by decide +kernel
theorem dX3_handOver_68 : decode cX3_handOver 68 = .ok (.ireturn, 1) := by decide +kernel
theorem dX4_init_0 : decode cX4_init 0 = .ok (.aload_n 0, 1) := by decide +kernel
theorem dX4_init_1 : decode cX4_init 1 = .ok (.invokespecial 5, 3) := by decide +kernel
theorem dX4_init_4 : decode cX4_init 4 = .ok (.aload_n 0, 1) := by decide +kernel
theorem dX4_init_5 : decode cX4_init 5 = .ok (.sipush 720, 3) := by decide +kernel
theorem dX4_init_8 : decode cX4_init 8 = .ok (.newarray .int, 2) := by decide +kernel
theorem dX4_init_10 : decode cX4_init 10 = .ok (.putfield 11, 3) := by decide +kernel
theorem dX4_init_13 : decode cX4_init 13 = .ok (.aload_n 0, 1) := by decide +kernel
theorem dX4_init_14 : decode cX4_init 14 = .ok (.iconst 0, 1) := by decide +kernel
theorem dX4_init_15 : decode cX4_init 15 = .ok (.putfield 15, 3) := by decide +kernel
theorem dX4_init_18 : decode cX4_init 18 = .ok (.aload_n 0, 1) := by decide +kernel
theorem dX4_init_19 : decode cX4_init 19 = .ok (.bipush 80, 2) := by decide +kernel
theorem dX4_init_21 : decode cX4_init 21 = .ok (.newarray .int, 2) := by decide +kernel
theorem dX4_init_23 : decode cX4_init 23 = .ok (.putfield 19, 3) := by decide +kernel
theorem dX4_init_26 : decode cX4_init 26 = .ok (.aload_n 0, 1) := by decide +kernel
theorem dX4_init_27 : decode cX4_init 27 = .ok (.bipush 8, 2) := by decide +kernel
theorem dX4_init_29 : decode cX4_init 29 = .ok (.newarray .int, 2) := by decide +kernel
theorem dX4_init_31 : decode cX4_init 31 = .ok (.putfield 22, 3) := by decide +kernel
theorem dX4_init_34 : decode cX4_init 34 = .ok (.aload_n 0, 1) := by decide +kernel
theorem dX4_init_35 : decode cX4_init 35 = .ok (.bipush 8, 2) := by decide +kernel
theorem dX4_init_37 : decode cX4_init 37 = .ok (.newarray .int, 2) := by decide +kernel
theorem dX4_init_39 : decode cX4_init 39 = .ok (.putfield 25, 3) := by decide +kernel
theorem dX4_init_42 : decode cX4_init 42 = .ok (.aload_n 0, 1) := by decide +kernel
theorem dX4_init_43 : decode cX4_init 43 = .ok (.bipush 20, 2) := by decide +kernel
theorem dX4_init_45 : decode cX4_init 45 = .ok (.newarray .int, 2) := by decide +kernel
theorem dX4_init_47 : decode cX4_init 47 = .ok (.putfield 28, 3) := by decide +kernel
theorem dX4_init_50 : decode cX4_init 50 = .ok (.aload_n 0, 1) := by decide +kernel
theorem dX4_init_51 : decode cX4_init 51 = .ok (.bipush 20, 2) := by decide +kernel
theorem dX4_init_53 : decode cX4_init 53 = .ok (.newarray .int, 2) := by decide +kernel
theorem dX4_init_55 : decode cX4_init 55 = .ok (.putfield 31, 3) := by decide +kernel
theorem dX4_init_58 : decode cX4_init 58 = .ok (.aload_n 0, 1) := by decide +kernel
theorem dX4_init_59 : decode cX4_init 59 = .ok (.bipush 20, 2) := by decide +kernel
theorem dX4_init_61 : decode cX4_init 61 = .ok (.newarray .int, 2) := by decide +kernel
theorem dX4_init_63 : decode cX4_init 63 = .ok (.putfield 34, 3) := by decide +kernel
theorem dX4_init_66 : decode cX4_init 66 = .ok (.aload_n 0, 1) := by decide +kernel
theorem dX4_init_67 : decode cX4_init 67 = .ok (.bipush 20, 2) := by decide +kernel
theorem dX4_init_69 : decode cX4_init 69 = .ok (.newarray .int, 2) := by decide +kernel
theorem dX4_init_71 : decode cX4_init 71 = .ok (.putfield 37, 3) := by decide +kernel
theorem dX4_init_74 : decode cX4_init 74 = .ok (.aload_n 0, 1) := by decide +kernel
theorem dX4_init_75 : decode cX4_init 75 = .ok (.bipush 20, 2) := by decide +kernel
theorem dX4_init_77 : decode cX4_init 77 = .ok (.newarray .int, 2) := by decide +kernel
theorem dX4_init_79 : decode cX4_init 79 = .ok (.putfield 40, 3) := by decide +kernel
theorem dX4_init_82 : decode cX4_init 82 = .ok (.aload_n 0, 1) := by decide +kernel
theorem dX4_init_83 : decode cX4_init 83 = .ok (.iconst 0, 1) := by decide +kernel
theorem dX4_init_84 : decode cX4_init 84 = .ok (.putfield 43, 3) := by decide +kernel
theorem dX4_init_87 : decode cX4_init 87 = .ok (.aload_n 0, 1) := by decide +kernel
theorem dX4_init_88 : decode cX4_init 88 = .ok (.iconst 0, 1) := by decide +kernel
theorem dX4_init_89 : decode cX4_init 89 = .ok (.putfield 46, 3) := by decide +kernel
theorem dX4_init_92 : decode cX4_init 92 = .ok (.return_, 1) := by decide +kernel
theorem dX4_cutUp_0 : decode cX4_cutUp 0 = .ok (.aload_n 0, 1) := by decide +kernel
theorem dX4_cutUp_1 : decode cX4_cutUp 1 = .ok (.getfield 15, 3) := by decide +kernel
theorem dX4_cutUp_4 : decode cX4_cutUp 4 = .ok (.iload_n 1, 1) := by decide +kernel
theorem dX4_cutUp_5 : decode cX4_cutUp 5 = .ok (.if_icmp .eq 14, 3) := by decide +kernel
theorem dX4_cutUp_8 : decode cX4_cutUp 8 = .ok (.iload_n 1, 1) := by decide +kernel
theorem dX4_cutUp_9 : decode cX4_cutUp 9 = .ok (.iconst 1, 1) := by decide +kernel
theorem dX4_cutUp_10 : decode cX4_cutUp 10 = .ok (.if_icmp .lt 9, 3) := by decide +kernel
theorem dX4_cutUp_13 : decode cX4_cutUp 13 = .ok (.iload_n 1, 1) := by decide +kernel
theorem dX4_cutUp_14 : decode cX4_cutUp 14 = .ok (.bipush 9, 2) := by decide +kernel
theorem dX4_cutUp_16 : decode cX4_cutUp 16 = .ok (.if_icmp .le 4, 3) := by decide +kernel
theorem dX4_cutUp_19 : decode cX4_cutUp 19 = .ok (.return_, 1) := by decide +kernel
theorem dX4_cutUp_20 : decode cX4_cutUp 20 = .ok (.aload_n 0, 1) := by decide +kernel
theorem dX4_cutUp_21 : decode cX4_cutUp 21 = .ok (.iload_n 1, 1) := by decide +kernel
theorem dX4_cutUp_22 : decode cX4_cutUp 22 = .ok (.putfield 15, 3) := by decide +kernel
theorem dX4_cutUp_25 : decode cX4_cutUp 25 = .ok (.aload_n 0, 1) := by decide +kernel
theorem dX4_cutUp_26 : decode cX4_cutUp 26 = .ok (.aload_n 2, 1) := by decide +kernel
theorem dX4_cutUp_27 : decode cX4_cutUp 27 = .ok (.getfield 49, 3) := by decide +kernel
theorem dX4_cutUp_30 : decode cX4_cutUp 30 = .ok (.putfield 43, 3) := by decide +kernel
theorem dX4_cutUp_33 : decode cX4_cutUp 33 = .ok (.aload_n 0, 1) := by decide +kernel
theorem dX4_cutUp_34 : decode cX4_cutUp 34 = .ok (.aload_n 2, 1) := by decide +kernel
theorem dX4_cutUp_35 : decode cX4_cutUp 35 = .ok (.getfield 52, 3) := by decide +kernel
theorem dX4_cutUp_38 : decode cX4_cutUp 38 = .ok (.putfield 46, 3) := by decide +kernel
theorem dX4_cutUp_41 : decode cX4_cutUp 41 = .ok (.aload_n 2, 1) := by decide +kernel
theorem dX4_cutUp_42 : decode cX4_cutUp 42 = .ok (.getfield 53, 3) := by decide +kernel
theorem dX4_cutUp_45 : decode cX4_cutUp 45 = .ok (.iconst 0, 1) := by decide +kernel
theorem dX4_cutUp_46 : decode cX4_cutUp 46 = .ok (.aload_n 0, 1) := by decide +kernel
theorem dX4_cutUp_47 : decode cX4_cutUp 47 = .ok (.getfield 19, 3) := by decide +kernel
theorem dX4_cutUp_50 : decode cX4_cutUp 50 = .ok (.iconst 0, 1) := by decide +kernel
theorem dX4_cutUp_51 : decode cX4_cutUp 51 = .ok (.bipush 80, 2) := by decide +kernel
theorem dX4_cutUp_53 : decode cX4_cutUp 53 = .ok (.invokestatic 56, 3) := by decide +kernel
theorem dX4_cutUp_56 : decode cX4_cutUp 56 = .ok (.iconst 0, 1) := by decide +kernel
theorem dX4_cutUp_57 : decode cX4_cutUp 57 = .ok (.istore_n 3, 1) := by decide +kernel
theorem dX4_cutUp_58 : decode cX4_cutUp 58 = .ok (.iload_n 3, 1) := by decide +kernel
theorem dX4_cutUp_59 : decode cX4_cutUp 59 = .ok (.iload_n 1, 1) := by decide +kernel
theorem dX4_cutUp_60 : decode cX4_cutUp 60 = .ok (.if_icmp .ge 38, 3) := by decide +kernel
theorem dX4_cutUp_63 : decode cX4_cutUp 63 = .ok (.aload_n 0, 1) := by decide +kernel
theorem dX4_cutUp_64 : decode cX4_cutUp 64 = .ok (.iload_n 3, 1) := by decide +kernel
theorem dX4_cutUp_65 : decode cX4_cutUp 65 = .ok (.iload_n 1, 1) := by decide +kernel
theorem dX4_cutUp_66 : decode cX4_cutUp 66 = .ok (.iload_n 3, 1) := by decide +kernel
theorem dX4_cutUp_67 : decode cX4_cutUp 67 = .ok (.isub, 1) := by decide +kernel
theorem dX4_cutUp_68 : decode cX4_cutUp 68 = .ok (.invokevirtual 62, 3) := by decide +kernel
theorem dX4_cutUp_71 : decode cX4_cutUp 71 = .ok (.aload_n 0, 1) := by decide +kernel
theorem dX4_cutUp_72 : decode cX4_cutUp 72 = .ok (.iload_n 3, 1) := by decide +kernel
theorem dX4_cutUp_73 : decode cX4_cutUp 73 = .ok (.iload_n 1, 1) := by decide +kernel
theorem dX4_cutUp_74 : decode cX4_cutUp 74 = .ok (.iload_n 3, 1) := by decide +kernel
theorem dX4_cutUp_75 : decode cX4_cutUp 75 = .ok (.isub, 1) := by decide +kernel
theorem dX4_cutUp_76 : decode cX4_cutUp 76 = .ok (.invokevirtual 66, 3) := by decide +kernel
theorem dX4_cutUp_79 : decode cX4_cutUp 79 = .ok (.aload_n 0, 1) := by decide +kernel
theorem dX4_cutUp_80 : decode cX4_cutUp 80 = .ok (.invokevirtual 69, 3) := by decide +kernel
theorem dX4_cutUp_83 : decode cX4_cutUp 83 = .ok (.aload_n 0, 1) := by decide +kernel
theorem dX4_cutUp_84 : decode cX4_cutUp 84 = .ok (.invokevirtual 72, 3) := by decide +kernel
theorem dX4_cutUp_87 : decode cX4_cutUp 87 = .ok (.aload_n 0, 1) := by decide +kernel
theorem dX4_cutUp_88 : decode cX4_cutUp 88 = .ok (.iload_n 3, 1) := by decide +kernel
theorem dX4_cutUp_89 : decode cX4_cutUp 89 = .ok (.invokevirtual 75, 3) := by decide +kernel
theorem dX4_cutUp_92 : decode cX4_cutUp 92 = .ok (.iinc 3 1, 3) := by decide +kernel
theorem dX4_cutUp_95 : decode cX4_cutUp 95 = .ok (.goto (-37), 3) := by decide +kernel
theorem dX4_cutUp_98 : decode cX4_cutUp 98 = .ok (.return_, 1) := by decide +kernel
theorem dX4_giveExtra_0 : decode cX4_giveExtra 0 = .ok (.iconst 0, 1) := by decide +kernel
theorem dX4_giveExtra_1 : decode cX4_giveExtra 1 = .ok (.istore_n 2, 1) := by decide +kernel
theorem dX4_giveExtra_2 : decode cX4_giveExtra 2 = .ok (.iload_n 2, 1) := by decide +kernel
theorem dX4_giveExtra_3 : decode cX4_giveExtra 3 = .ok (.aload_n 0, 1) := by decide +kernel
theorem dX4_giveExtra_4 : decode cX4_giveExtra 4 = .ok (.getfield 43, 3) := by decide +kernel
theorem dX4_giveExtra_7 : decode cX4_giveExtra 7 = .ok (.if_icmp .ge 51, 3) := by decide +kernel
theorem dX4_giveExtra_10 : decode cX4_giveExtra 10 = .ok (.aload_n 0, 1) := by decide +kernel
theorem dX4_giveExtra_11 : decode cX4_giveExtra 11 = .ok (.getfield 22, 3) := by decide +kernel
theorem dX4_giveExtra_14 : decode cX4_giveExtra 14 = .ok (.iload_n 2, 1) := by decide +kernel
theorem dX4_giveExtra_15 : decode cX4_giveExtra 15 = .ok (.iaload, 1) := by decide +kernel
theorem dX4_giveExtra_16 : decode cX4_giveExtra 16 = .ok (.istore_n 3, 1) := by decide +kernel
theorem dX4_giveExtra_17 : decode cX4_giveExtra 17 = .ok (.iload_n 3, 1) := by decide +kernel
theorem dX4_giveExtra_18 : decode cX4_giveExtra 18 = .ok (.ifCond .eq 34, 3) := by decide +kernel
theorem dX4_giveExtra_21 : decode cX4_giveExtra 21 = .ok (.aload_n 0, 1) := by decide +kernel
theorem dX4_giveExtra_22 : decode cX4_giveExtra 22 = .ok (.getfield 11, 3) := by decide +kernel
theorem dX4_giveExtra_25 : decode cX4_giveExtra 25 = .ok (.iload_n 1, 1) := by decide +kernel
theorem dX4_giveExtra_26 : decode cX4_giveExtra 26 = .ok (.bipush 80, 2) := by decide +kernel
theorem dX4_giveExtra_28 : decode cX4_giveExtra 28 = .ok (.imul, 1) := by decide +kernel
theorem dX4_giveExtra_29 : decode cX4_giveExtra 29 = .ok (.iload_n 2, 1) := by decide +kernel
theorem dX4_giveExtra_30 : decode cX4_giveExtra 30 = .ok (.iload_n 3, 1) := by decide +kernel
theorem dX4_giveExtra_31 : decode cX4_giveExtra 31 = .ok (.invokestatic 79, 3) := by decide +kernel
theorem dX4_giveExtra_34 : decode cX4_giveExtra 34 = .ok (.invokestatic 83, 3) := by decide +kernel
theorem dX4_giveExtra_37 : decode cX4_giveExtra 37 = .ok (.iadd, 1) := by decide +kernel
theorem dX4_giveExtra_38 : decode cX4_giveExtra 38 = .ok (.dup2, 1) := by decide +kernel
theorem dX4_giveExtra_39 : decode cX4_giveExtra 39 = .ok (.iaload, 1) := by decide +kernel
theorem dX4_giveExtra_40 : decode cX4_giveExtra 40 = .ok (.iconst 1, 1) := by decide +kernel
theorem dX4_giveExtra_41 : decode cX4_giveExtra 41 = .ok (.iadd, 1) := by decide +kernel
theorem dX4_giveExtra_42 : decode cX4_giveExtra 42 = .ok (.iastore, 1) := by decide +kernel
theorem dX4_giveExtra_43 : decode cX4_giveExtra 43 = .ok (.iload_n 3, 1) := by decide +kernel
theorem dX4_giveExtra_44 : decode cX4_giveExtra 44 = .ok (.iload_n 3, 1) := by decide +kernel
theorem dX4_giveExtra_45 : decode cX4_giveExtra 45 = .ok (.iconst 1, 1) := by decide +kernel
theorem dX4_giveExtra_46 : decode cX4_giveExtra 46 = .ok (.isub, 1) := by decide +kernel
theorem dX4_giveExtra_47 : decode cX4_giveExtra 47 = .ok (.iand, 1) := by decide +kernel
theorem dX4_giveExtra_48 : decode cX4_giveExtra 48 = .ok (.istore_n 3, 1) := by decide +kernel
theorem dX4_giveExtra_49 : decode cX4_giveExtra 49 = .ok (.goto (-32), 3) := by decide +kernel
theorem dX4_giveExtra_52 : decode cX4_giveExtra 52 = .ok (.iinc 2 1, 3) := by decide +kernel
theorem dX4_giveExtra_55 : decode cX4_giveExtra 55 = .ok (.goto (-53), 3) := by decide +kernel
theorem dX4_giveExtra_58 : decode cX4_giveExtra 58 = .ok (.iconst 0, 1) := by decide +kernel
theorem dX4_giveExtra_59 : decode cX4_giveExtra 59 = .ok (.istore_n 2, 1) := by decide +kernel
theorem dX4_giveExtra_60 : decode cX4_giveExtra 60 = .ok (.iload_n 2, 1) := by decide +kernel
theorem dX4_giveExtra_61 : decode cX4_giveExtra 61 = .ok (.bipush 80, 2) := by decide +kernel
theorem dX4_giveExtra_63 : decode cX4_giveExtra 63 = .ok (.if_icmp .ge 29, 3) := by decide +kernel
theorem dX4_giveExtra_66 : decode cX4_giveExtra 66 = .ok (.aload_n 0, 1) := by decide +kernel
theorem dX4_giveExtra_67 : decode cX4_giveExtra 67 = .ok (.getfield 19, 3) := by decide +kernel
theorem dX4_giveExtra_70 : decode cX4_giveExtra 70 = .ok (.iload_n 2, 1) := by decide +kernel
theorem dX4_giveExtra_71 : decode cX4_giveExtra 71 = .ok (.dup2, 1) := by decide +kernel
theorem dX4_giveExtra_72 : decode cX4_giveExtra 72 = .ok (.iaload, 1) := by decide +kernel
theorem dX4_giveExtra_73 : decode cX4_giveExtra 73 = .ok (.aload_n 0, 1) := by decide +kernel
theorem dX4_giveExtra_74 : decode cX4_giveExtra 74 = .ok (.getfield 11, 3) := by decide +kernel
theorem dX4_giveExtra_77 : decode cX4_giveExtra 77 = .ok (.iload_n 1, 1) := by decide +kernel
theorem dX4_giveExtra_78 : decode cX4_giveExtra 78 = .ok (.bipush 80, 2) := by decide +kernel
theorem dX4_giveExtra_80 : decode cX4_giveExtra 80 = .ok (.imul, 1) := by decide +kernel
theorem dX4_giveExtra_81 : decode cX4_giveExtra 81 = .ok (.iload_n 2, 1) := by decide +kernel
theorem dX4_giveExtra_82 : decode cX4_giveExtra 82 = .ok (.iadd, 1) := by decide +kernel
theorem dX4_giveExtra_83 : decode cX4_giveExtra 83 = .ok (.iaload, 1) := by decide +kernel
theorem dX4_giveExtra_84 : decode cX4_giveExtra 84 = .ok (.isub, 1) := by decide +kernel
theorem dX4_giveExtra_85 : decode cX4_giveExtra 85 = .ok (.iastore, 1) := by decide +kernel
theorem dX4_giveExtra_86 : decode cX4_giveExtra 86 = .ok (.iinc 2 1, 3) := by decide +kernel
theorem dX4_giveExtra_89 : decode cX4_giveExtra 89 = .ok (.goto (-29), 3) := by decide +kernel
theorem dX4_giveExtra_92 : decode cX4_giveExtra 92 = .ok (.return_, 1) := by decide +kernel
theorem dX4_giveWhole_0 : decode cX4_giveWhole 0 = .ok (.iconst 0, 1) := by decide +kernel
theorem dX4_giveWhole_1 : decode cX4_giveWhole 1 = .ok (.istore_n 3, 1) := by decide +kernel
theorem dX4_giveWhole_2 : decode cX4_giveWhole 2 = .ok (.iload_n 3, 1) := by decide +kernel
theorem dX4_giveWhole_3 : decode cX4_giveWhole 3 = .ok (.bipush 80, 2) := by decide +kernel
theorem dX4_giveWhole_5 : decode cX4_giveWhole 5 = .ok (.if_icmp .ge 32, 3) := by decide +kernel
theorem dX4_giveWhole_8 : decode cX4_giveWhole 8 = .ok (.iload_n 2, 1) := by decide +kernel
theorem dX4_giveWhole_9 : decode cX4_giveWhole 9 = .ok (.ifCond .le 28, 3) := by decide +kernel
theorem dX4_giveWhole_12 : decode cX4_giveWhole 12 = .ok (.aload_n 0, 1) := by decide +kernel
theorem dX4_giveWhole_13 : decode cX4_giveWhole 13 = .ok (.getfield 11, 3) := by decide +kernel
theorem dX4_giveWhole_16 : decode cX4_giveWhole 16 = .ok (.iload_n 1, 1) := by decide +kernel
theorem dX4_giveWhole_17 : decode cX4_giveWhole 17 = .ok (.bipush 80, 2) := by decide +kernel
theorem dX4_giveWhole_19 : decode cX4_giveWhole 19 = .ok (.imul, 1) := by decide +kernel
theorem dX4_giveWhole_20 : decode cX4_giveWhole 20 = .ok (.iload_n 3, 1) := by decide +kernel
theorem dX4_giveWhole_21 : decode cX4_giveWhole 21 = .ok (.iadd, 1) := by decide +kernel
theorem dX4_giveWhole_22 : decode cX4_giveWhole 22 = .ok (.aload_n 0, 1) := by decide +kernel
theorem dX4_giveWhole_23 : decode cX4_giveWhole 23 = .ok (.getfield 19, 3) := by decide +kernel
theorem dX4_giveWhole_26 : decode cX4_giveWhole 26 = .ok (.iload_n 3, 1) := by decide +kernel
theorem dX4_giveWhole_27 : decode cX4_giveWhole 27 = .ok (.iaload, 1) := by decide +kernel
theorem dX4_giveWhole_28 : decode cX4_giveWhole 28 = .ok (.iload_n 2, 1) := by decide +kernel
theorem dX4_giveWhole_29 : decode cX4_giveWhole 29 = .ok (.idiv, 1) := by decide +kernel
theorem dX4_giveWhole_30 : decode cX4_giveWhole 30 = .ok (.iastore, 1) := by decide +kernel
theorem dX4_giveWhole_31 : decode cX4_giveWhole 31 = .ok (.iinc 3 1, 3) := by decide +kernel
theorem dX4_giveWhole_34 : decode cX4_giveWhole 34 = .ok (.goto (-32), 3) := by decide +kernel
theorem dX4_giveWhole_37 : decode cX4_giveWhole 37 = .ok (.iconst 0, 1) := by decide +kernel
theorem dX4_giveWhole_38 : decode cX4_giveWhole 38 = .ok (.istore_n 3, 1) := by decide +kernel
theorem dX4_giveWhole_39 : decode cX4_giveWhole 39 = .ok (.iload_n 3, 1) := by decide +kernel
theorem dX4_giveWhole_40 : decode cX4_giveWhole 40 = .ok (.aload_n 0, 1) := by decide +kernel
theorem dX4_giveWhole_41 : decode cX4_giveWhole 41 = .ok (.getfield 43, 3) := by decide +kernel
theorem dX4_giveWhole_44 : decode cX4_giveWhole 44 = .ok (.if_icmp .ge 86, 3) := by decide +kernel
theorem dX4_giveWhole_47 : decode cX4_giveWhole 47 = .ok (.aload_n 0, 1) := by decide +kernel
theorem dX4_giveWhole_48 : decode cX4_giveWhole 48 = .ok (.getfield 22, 3) := by decide +kernel
theorem dX4_giveWhole_51 : decode cX4_giveWhole 51 = .ok (.iload_n 3, 1) := by decide +kernel
theorem dX4_giveWhole_52 : decode cX4_giveWhole 52 = .ok (.iconst 0, 1) := by decide +kernel
theorem dX4_giveWhole_53 : decode cX4_giveWhole 53 = .ok (.iastore, 1) := by decide +kernel
theorem dX4_giveWhole_54 : decode cX4_giveWhole 54 = .ok (.aload_n 0, 1) := by decide +kernel
theorem dX4_giveWhole_55 : decode cX4_giveWhole 55 = .ok (.getfield 25, 3) := by decide +kernel
theorem dX4_giveWhole_58 : decode cX4_giveWhole 58 = .ok (.iload_n 3, 1) := by decide +kernel
theorem dX4_giveWhole_59 : decode cX4_giveWhole 59 = .ok (.iconst 0, 1) := by decide +kernel
theorem dX4_giveWhole_60 : decode cX4_giveWhole 60 = .ok (.iastore, 1) := by decide +kernel
theorem dX4_giveWhole_61 : decode cX4_giveWhole 61 = .ok (.iconst 0, 1) := by decide +kernel
theorem dX4_giveWhole_62 : decode cX4_giveWhole 62 = .ok (.istore 4, 2) := by decide +kernel
theorem dX4_giveWhole_64 : decode cX4_giveWhole 64 = .ok (.iload 4, 2) := by decide +kernel
theorem dX4_giveWhole_66 : decode cX4_giveWhole 66 = .ok (.aload_n 0, 1) := by decide +kernel
theorem dX4_giveWhole_67 : decode cX4_giveWhole 67 = .ok (.getfield 46, 3) := by decide +kernel
theorem dX4_giveWhole_70 : decode cX4_giveWhole 70 = .ok (.if_icmp .ge 54, 3) := by decide +kernel
theorem dX4_giveWhole_73 : decode cX4_giveWhole 73 = .ok (.iload_n 3, 1) := by decide +kernel
theorem dX4_giveWhole_74 : decode cX4_giveWhole 74 = .ok (.iload 4, 2) := by decide +kernel
theorem dX4_giveWhole_76 : decode cX4_giveWhole 76 = .ok (.invokestatic 83, 3) := by decide +kernel
theorem dX4_giveWhole_79 : decode cX4_giveWhole 79 = .ok (.istore 5, 2) := by decide +kernel
theorem dX4_giveWhole_81 : decode cX4_giveWhole 81 = .ok (.aload_n 0, 1) := by decide +kernel
theorem dX4_giveWhole_82 : decode cX4_giveWhole 82 = .ok (.getfield 11, 3) := by decide +kernel
theorem dX4_giveWhole_85 : decode cX4_giveWhole 85 = .ok (.iload_n 1, 1) := by decide +kernel
theorem dX4_giveWhole_86 : decode cX4_giveWhole 86 = .ok (.bipush 80, 2) := by decide +kernel
theorem dX4_giveWhole_88 : decode cX4_giveWhole 88 = .ok (.imul, 1) := by decide +kernel
theorem dX4_giveWhole_89 : decode cX4_giveWhole 89 = .ok (.iload 5, 2) := by decide +kernel
theorem dX4_giveWhole_91 : decode cX4_giveWhole 91 = .ok (.iadd, 1) := by decide +kernel
theorem dX4_giveWhole_92 : decode cX4_giveWhole 92 = .ok (.iaload, 1) := by decide +kernel
theorem dX4_giveWhole_93 : decode cX4_giveWhole 93 = .ok (.iload_n 2, 1) := by decide +kernel
theorem dX4_giveWhole_94 : decode cX4_giveWhole 94 = .ok (.imul, 1) := by decide +kernel
theorem dX4_giveWhole_95 : decode cX4_giveWhole 95 = .ok (.aload_n 0, 1) := by decide +kernel
theorem dX4_giveWhole_96 : decode cX4_giveWhole 96 = .ok (.getfield 19, 3) := by decide +kernel
theorem dX4_giveWhole_99 : decode cX4_giveWhole 99 = .ok (.iload 5, 2) := by decide +kernel
theorem dX4_giveWhole_101 : decode cX4_giveWhole 101 = .ok (.iaload, 1) := by decide +kernel
theorem dX4_giveWhole_102 : decode cX4_giveWhole 102 = .ok (.if_icmp .ge 16, 3) := by decide +kernel
theorem dX4_giveWhole_105 : decode cX4_giveWhole 105 = .ok (.aload_n 0, 1) := by decide +kernel
theorem dX4_giveWhole_106 : decode cX4_giveWhole 106 = .ok (.getfield 25, 3) := by decide +kernel
theorem dX4_giveWhole_109 : decode cX4_giveWhole 109 = .ok (.iload_n 3, 1) := by decide +kernel
theorem dX4_giveWhole_110 : decode cX4_giveWhole 110 = .ok (.dup2, 1) := by decide +kernel
theorem dX4_giveWhole_111 : decode cX4_giveWhole 111 = .ok (.iaload, 1) := by decide +kernel
theorem dX4_giveWhole_112 : decode cX4_giveWhole 112 = .ok (.iconst 1, 1) := by decide +kernel
theorem dX4_giveWhole_113 : decode cX4_giveWhole 113 = .ok (.iload 4, 2) := by decide +kernel
theorem dX4_giveWhole_115 : decode cX4_giveWhole 115 = .ok (.ishl, 1) := by decide +kernel
theorem dX4_giveWhole_116 : decode cX4_giveWhole 116 = .ok (.ior, 1) := by decide +kernel
theorem dX4_giveWhole_117 : decode cX4_giveWhole 117 = .ok (.iastore, 1) := by decide +kernel
theorem dX4_giveWhole_118 : decode cX4_giveWhole 118 = .ok (.iinc 4 1, 3) := by decide +kernel
theorem dX4_giveWhole_121 : decode cX4_giveWhole 121 = .ok (.goto (-57), 3) := by decide +kernel
theorem dX4_giveWhole_124 : decode cX4_giveWhole 124 = .ok (.iinc 3 1, 3) := by decide +kernel
theorem dX4_giveWhole_127 : decode cX4_giveWhole 127 = .ok (.goto (-88), 3) := by decide +kernel
theorem dX4_giveWhole_130 : decode cX4_giveWhole 130 = .ok (.return_, 1) := by decide +kernel
theorem dX4_boundSums_0 : decode cX4_boundSums 0 = .ok (.iconst 0, 1) := by decide +kernel
theorem dX4_boundSums_1 : decode cX4_boundSums 1 = .ok (.istore_n 3, 1) := by decide +kernel
theorem dX4_boundSums_2 : decode cX4_boundSums 2 = .ok (.iconst 0, 1) := by decide +kernel
theorem dX4_boundSums_3 : decode cX4_boundSums 3 = .ok (.istore 4, 2) := by decide +kernel
theorem dX4_boundSums_5 : decode cX4_boundSums 5 = .ok (.iconst 0, 1) := by decide +kernel
theorem dX4_boundSums_6 : decode cX4_boundSums 6 = .ok (.istore 5, 2) := by decide +kernel
theorem dX4_boundSums_8 : decode cX4_boundSums 8 = .ok (.iload 5, 2) := by decide +kernel
theorem dX4_boundSums_10 : decode cX4_boundSums 10 = .ok (.aload_n 0, 1) := by decide +kernel
theorem dX4_boundSums_11 : decode cX4_boundSums 11 = .ok (.getfield 43, 3) := by decide +kernel
theorem dX4_boundSums_14 : decode cX4_boundSums 14 = .ok (.if_icmp .ge 95, 3) := by decide +kernel
theorem dX4_boundSums_17 : decode cX4_boundSums 17 = .ok (.iconst 0, 1) := by decide +kernel
theorem dX4_boundSums_18 : decode cX4_boundSums 18 = .ok (.istore 6, 2) := by decide +kernel
theorem dX4_boundSums_20 : decode cX4_boundSums 20 = .ok (.iconst 0, 1) := by decide +kernel
theorem dX4_boundSums_21 : decode cX4_boundSums 21 = .ok (.istore 7, 2) := by decide +kernel
theorem dX4_boundSums_23 : decode cX4_boundSums 23 = .ok (.iconst 0, 1) := by decide +kernel
theorem dX4_boundSums_24 : decode cX4_boundSums 24 = .ok (.istore 8, 2) := by decide +kernel
theorem dX4_boundSums_26 : decode cX4_boundSums 26 = .ok (.iload 8, 2) := by decide +kernel
theorem dX4_boundSums_28 : decode cX4_boundSums 28 = .ok (.aload_n 0, 1) := by decide +kernel
theorem dX4_boundSums_29 : decode cX4_boundSums 29 = .ok (.getfield 46, 3) := by decide +kernel
theorem dX4_boundSums_32 : decode cX4_boundSums 32 = .ok (.if_icmp .ge 48, 3) := by decide +kernel
theorem dX4_boundSums_35 : decode cX4_boundSums 35 = .ok (.iload 6, 2) := by decide +kernel
theorem dX4_boundSums_37 : decode cX4_boundSums 37 = .ok (.aload_n 0, 1) := by decide +kernel
theorem dX4_boundSums_38 : decode cX4_boundSums 38 = .ok (.getfield 19, 3) := by decide +kernel
theorem dX4_boundSums_41 : decode cX4_boundSums 41 = .ok (.iload 5, 2) := by decide +kernel
theorem dX4_boundSums_43 : decode cX4_boundSums 43 = .ok (.iload 8, 2) := by decide +kernel
theorem dX4_boundSums_45 : decode cX4_boundSums 45 = .ok (.invokestatic 83, 3) := by decide +kernel
theorem dX4_boundSums_48 : decode cX4_boundSums 48 = .ok (.iaload, 1) := by decide +kernel
theorem dX4_boundSums_49 : decode cX4_boundSums 49 = .ok (.iadd, 1) := by decide +kernel
theorem dX4_boundSums_50 : decode cX4_boundSums 50 = .ok (.istore 6, 2) := by decide +kernel
theorem dX4_boundSums_52 : decode cX4_boundSums 52 = .ok (.iload 7, 2) := by decide +kernel
theorem dX4_boundSums_54 : decode cX4_boundSums 54 = .ok (.aload_n 0, 1) := by decide +kernel
theorem dX4_boundSums_55 : decode cX4_boundSums 55 = .ok (.getfield 11, 3) := by decide +kernel
theorem dX4_boundSums_58 : decode cX4_boundSums 58 = .ok (.iload_n 1, 1) := by decide +kernel
theorem dX4_boundSums_59 : decode cX4_boundSums 59 = .ok (.bipush 80, 2) := by decide +kernel
theorem dX4_boundSums_61 : decode cX4_boundSums 61 = .ok (.imul, 1) := by decide +kernel
theorem dX4_boundSums_62 : decode cX4_boundSums 62 = .ok (.iload 5, 2) := by decide +kernel
theorem dX4_boundSums_64 : decode cX4_boundSums 64 = .ok (.iload 8, 2) := by decide +kernel
theorem dX4_boundSums_66 : decode cX4_boundSums 66 = .ok (.invokestatic 83, 3) := by decide +kernel
theorem dX4_boundSums_69 : decode cX4_boundSums 69 = .ok (.iadd, 1) := by decide +kernel
theorem dX4_boundSums_70 : decode cX4_boundSums 70 = .ok (.iaload, 1) := by decide +kernel
theorem dX4_boundSums_71 : decode cX4_boundSums 71 = .ok (.iadd, 1) := by decide +kernel
theorem dX4_boundSums_72 : decode cX4_boundSums 72 = .ok (.istore 7, 2) := by decide +kernel
theorem dX4_boundSums_74 : decode cX4_boundSums 74 = .ok (.iinc 8 1, 3) := by decide +kernel
theorem dX4_boundSums_77 : decode cX4_boundSums 77 = .ok (.goto (-51), 3) := by decide +kernel
theorem dX4_boundSums_80 : decode cX4_boundSums 80 = .ok (.aload_n 0, 1) := by decide +kernel
theorem dX4_boundSums_81 : decode cX4_boundSums 81 = .ok (.iload 5, 2) := by decide +kernel
theorem dX4_boundSums_83 : decode cX4_boundSums 83 = .ok (.iload 6, 2) := by decide +kernel
theorem dX4_boundSums_85 : decode cX4_boundSums 85 = .ok (.iload 7, 2) := by decide +kernel
theorem dX4_boundSums_87 : decode cX4_boundSums 87 = .ok (.iload_n 2, 1) := by decide +kernel
theorem dX4_boundSums_88 : decode cX4_boundSums 88 = .ok (.invokevirtual 87, 3) := by decide +kernel
theorem dX4_boundSums_91 : decode cX4_boundSums 91 = .ok (.iload_n 3, 1) := by decide +kernel
theorem dX4_boundSums_92 : decode cX4_boundSums 92 = .ok (.iload 6, 2) := by decide +kernel
theorem dX4_boundSums_94 : decode cX4_boundSums 94 = .ok (.iadd, 1) := by decide +kernel
theorem dX4_boundSums_95 : decode cX4_boundSums 95 = .ok (.istore_n 3, 1) := by decide +kernel
theorem dX4_boundSums_96 : decode cX4_boundSums 96 = .ok (.iload 4, 2) := by decide +kernel
theorem dX4_boundSums_98 : decode cX4_boundSums 98 = .ok (.iload 7, 2) := by decide +kernel
theorem dX4_boundSums_100 : decode cX4_boundSums 100 = .ok (.iadd, 1) := by decide +kernel
theorem dX4_boundSums_101 : decode cX4_boundSums 101 = .ok (.istore 4, 2) := by decide +kernel
theorem dX4_boundSums_103 : decode cX4_boundSums 103 = .ok (.iinc 5 1, 3) := by decide +kernel
theorem dX4_boundSums_106 : decode cX4_boundSums 106 = .ok (.goto (-98), 3) := by decide +kernel
theorem dX4_boundSums_109 : decode cX4_boundSums 109 = .ok (.iconst 0, 1) := by decide +kernel
theorem dX4_boundSums_110 : decode cX4_boundSums 110 = .ok (.istore 5, 2) := by decide +kernel
theorem dX4_boundSums_112 : decode cX4_boundSums 112 = .ok (.iload 5, 2) := by decide +kernel
theorem dX4_boundSums_114 : decode cX4_boundSums 114 = .ok (.aload_n 0, 1) := by decide +kernel
theorem dX4_boundSums_115 : decode cX4_boundSums 115 = .ok (.getfield 46, 3) := by decide +kernel
theorem dX4_boundSums_118 : decode cX4_boundSums 118 = .ok (.if_icmp .ge 86, 3) := by decide +kernel
theorem dX4_boundSums_121 : decode cX4_boundSums 121 = .ok (.iconst 0, 1) := by decide +kernel
theorem dX4_boundSums_122 : decode cX4_boundSums 122 = .ok (.istore 6, 2) := by decide +kernel
theorem dX4_boundSums_124 : decode cX4_boundSums 124 = .ok (.iconst 0, 1) := by decide +kernel
theorem dX4_boundSums_125 : decode cX4_boundSums 125 = .ok (.istore 7, 2) := by decide +kernel
theorem dX4_boundSums_127 : decode cX4_boundSums 127 = .ok (.iconst 0, 1) := by decide +kernel
theorem dX4_boundSums_128 : decode cX4_boundSums 128 = .ok (.istore 8, 2) := by decide +kernel
theorem dX4_boundSums_130 : decode cX4_boundSums 130 = .ok (.iload 8, 2) := by decide +kernel
theorem dX4_boundSums_132 : decode cX4_boundSums 132 = .ok (.aload_n 0, 1) := by decide +kernel
theorem dX4_boundSums_133 : decode cX4_boundSums 133 = .ok (.getfield 43, 3) := by decide +kernel
theorem dX4_boundSums_136 : decode cX4_boundSums 136 = .ok (.if_icmp .ge 48, 3) := by decide +kernel
theorem dX4_boundSums_139 : decode cX4_boundSums 139 = .ok (.iload 6, 2) := by decide +kernel
theorem dX4_boundSums_141 : decode cX4_boundSums 141 = .ok (.aload_n 0, 1) := by decide +kernel
theorem dX4_boundSums_142 : decode cX4_boundSums 142 = .ok (.getfield 19, 3) := by decide +kernel
theorem dX4_boundSums_145 : decode cX4_boundSums 145 = .ok (.iload 8, 2) := by decide +kernel
theorem dX4_boundSums_147 : decode cX4_boundSums 147 = .ok (.iload 5, 2) := by decide +kernel
theorem dX4_boundSums_149 : decode cX4_boundSums 149 = .ok (.invokestatic 83, 3) := by decide +kernel
theorem dX4_boundSums_152 : decode cX4_boundSums 152 = .ok (.iaload, 1) := by decide +kernel
theorem dX4_boundSums_153 : decode cX4_boundSums 153 = .ok (.iadd, 1) := by decide +kernel
theorem dX4_boundSums_154 : decode cX4_boundSums 154 = .ok (.istore 6, 2) := by decide +kernel
theorem dX4_boundSums_156 : decode cX4_boundSums 156 = .ok (.iload 7, 2) := by decide +kernel
theorem dX4_boundSums_158 : decode cX4_boundSums 158 = .ok (.aload_n 0, 1) := by decide +kernel
theorem dX4_boundSums_159 : decode cX4_boundSums 159 = .ok (.getfield 11, 3) := by decide +kernel
theorem dX4_boundSums_162 : decode cX4_boundSums 162 = .ok (.iload_n 1, 1) := by decide +kernel
theorem dX4_boundSums_163 : decode cX4_boundSums 163 = .ok (.bipush 80, 2) := by decide +kernel
theorem dX4_boundSums_165 : decode cX4_boundSums 165 = .ok (.imul, 1) := by decide +kernel
theorem dX4_boundSums_166 : decode cX4_boundSums 166 = .ok (.iload 8, 2) := by decide +kernel
theorem dX4_boundSums_168 : decode cX4_boundSums 168 = .ok (.iload 5, 2) := by decide +kernel
theorem dX4_boundSums_170 : decode cX4_boundSums 170 = .ok (.invokestatic 83, 3) := by decide +kernel
theorem dX4_boundSums_173 : decode cX4_boundSums 173 = .ok (.iadd, 1) := by decide +kernel
theorem dX4_boundSums_174 : decode cX4_boundSums 174 = .ok (.iaload, 1) := by decide +kernel
theorem dX4_boundSums_175 : decode cX4_boundSums 175 = .ok (.iadd, 1) := by decide +kernel
theorem dX4_boundSums_176 : decode cX4_boundSums 176 = .ok (.istore 7, 2) := by decide +kernel
theorem dX4_boundSums_178 : decode cX4_boundSums 178 = .ok (.iinc 8 1, 3) := by decide +kernel
theorem dX4_boundSums_181 : decode cX4_boundSums 181 = .ok (.goto (-51), 3) := by decide +kernel
theorem dX4_boundSums_184 : decode cX4_boundSums 184 = .ok (.aload_n 0, 1) := by decide +kernel
theorem dX4_boundSums_185 : decode cX4_boundSums 185 = .ok (.bipush 8, 2) := by decide +kernel
theorem dX4_boundSums_187 : decode cX4_boundSums 187 = .ok (.iload 5, 2) := by decide +kernel
theorem dX4_boundSums_189 : decode cX4_boundSums 189 = .ok (.iadd, 1) := by decide +kernel
theorem dX4_boundSums_190 : decode cX4_boundSums 190 = .ok (.iload 6, 2) := by decide +kernel
theorem dX4_boundSums_192 : decode cX4_boundSums 192 = .ok (.iload 7, 2) := by decide +kernel
theorem dX4_boundSums_194 : decode cX4_boundSums 194 = .ok (.iload_n 2, 1) := by decide +kernel
theorem dX4_boundSums_195 : decode cX4_boundSums 195 = .ok (.invokevirtual 87, 3) := by decide +kernel
theorem dX4_boundSums_198 : decode cX4_boundSums 198 = .ok (.iinc 5 1, 3) := by decide +kernel
theorem dX4_boundSums_201 : decode cX4_boundSums 201 = .ok (.goto (-89), 3) := by decide +kernel
theorem dX4_boundSums_204 : decode cX4_boundSums 204 = .ok (.aload_n 0, 1) := by decide +kernel
theorem dX4_boundSums_205 : decode cX4_boundSums 205 = .ok (.bipush 18, 2) := by decide +kernel
theorem dX4_boundSums_207 : decode cX4_boundSums 207 = .ok (.iload_n 3, 1) := by decide +kernel
theorem dX4_boundSums_208 : decode cX4_boundSums 208 = .ok (.iload 4, 2) := by decide +kernel
theorem dX4_boundSums_210 : decode cX4_boundSums 210 = .ok (.iload_n 2, 1) := by decide +kernel
theorem dX4_boundSums_211 : decode cX4_boundSums 211 = .ok (.invokevirtual 87, 3) := by decide +kernel
theorem dX4_boundSums_214 : decode cX4_boundSums 214 = .ok (.return_, 1) := by decide +kernel
theorem dX4_bound_0 : decode cX4_bound 0 = .ok (.iload 4, 2) := by decide +kernel
theorem dX4_bound_2 : decode cX4_bound 2 = .ok (.ifCond .le 39, 3) := by decide +kernel
theorem dX4_bound_5 : decode cX4_bound 5 = .ok (.aload_n 0, 1) := by decide +kernel
theorem dX4_bound_6 : decode cX4_bound 6 = .ok (.getfield 28, 3) := by decide +kernel
theorem dX4_bound_9 : decode cX4_bound 9 = .ok (.iload_n 1, 1) := by decide +kernel
theorem dX4_bound_10 : decode cX4_bound 10 = .ok (.iconst 0, 1) := by decide +kernel
theorem dX4_bound_11 : decode cX4_bound 11 = .ok (.iastore, 1) := by decide +kernel
theorem dX4_bound_12 : decode cX4_bound 12 = .ok (.aload_n 0, 1) := by decide +kernel
theorem dX4_bound_13 : decode cX4_bound 13 = .ok (.getfield 31, 3) := by decide +kernel
theorem dX4_bound_16 : decode cX4_bound 16 = .ok (.iload_n 1, 1) := by decide +kernel
theorem dX4_bound_17 : decode cX4_bound 17 = .ok (.iload_n 2, 1) := by decide +kernel
theorem dX4_bound_18 : decode cX4_bound 18 = .ok (.iload 4, 2) := by decide +kernel
theorem dX4_bound_20 : decode cX4_bound 20 = .ok (.idiv, 1) := by decide +kernel
theorem dX4_bound_21 : decode cX4_bound 21 = .ok (.iload_n 3, 1) := by decide +kernel
theorem dX4_bound_22 : decode cX4_bound 22 = .ok (.isub, 1) := by decide +kernel
theorem dX4_bound_23 : decode cX4_bound 23 = .ok (.iastore, 1) := by decide +kernel
theorem dX4_bound_24 : decode cX4_bound 24 = .ok (.aload_n 0, 1) := by decide +kernel
theorem dX4_bound_25 : decode cX4_bound 25 = .ok (.getfield 34, 3) := by decide +kernel
theorem dX4_bound_28 : decode cX4_bound 28 = .ok (.iload_n 1, 1) := by decide +kernel
theorem dX4_bound_29 : decode cX4_bound 29 = .ok (.iload_n 2, 1) := by decide +kernel
theorem dX4_bound_30 : decode cX4_bound 30 = .ok (.iload 4, 2) := by decide +kernel
theorem dX4_bound_32 : decode cX4_bound 32 = .ok (.iadd, 1) := by decide +kernel
theorem dX4_bound_33 : decode cX4_bound 33 = .ok (.iconst 1, 1) := by decide +kernel
theorem dX4_bound_34 : decode cX4_bound 34 = .ok (.isub, 1) := by decide +kernel
theorem dX4_bound_35 : decode cX4_bound 35 = .ok (.iload 4, 2) := by decide +kernel
theorem dX4_bound_37 : decode cX4_bound 37 = .ok (.idiv, 1) := by decide +kernel
theorem dX4_bound_38 : decode cX4_bound 38 = .ok (.iload_n 3, 1) := by decide +kernel
theorem dX4_bound_39 : decode cX4_bound 39 = .ok (.isub, 1) := by decide +kernel
theorem dX4_bound_40 : decode cX4_bound 40 = .ok (.iastore, 1) := by decide +kernel
theorem dX4_bound_41 : decode cX4_bound 41 = .ok (.return_, 1) := by decide +kernel
theorem dX4_raiseLows_0 : decode cX4_raiseLows 0 = .ok (.iconst 0, 1) := by decide +kernel
theorem dX4_raiseLows_1 : decode cX4_raiseLows 1 = .ok (.istore_n 1, 1) := by decide +kernel
theorem dX4_raiseLows_2 : decode cX4_raiseLows 2 = .ok (.iload_n 1, 1) := by decide +kernel
theorem dX4_raiseLows_3 : decode cX4_raiseLows 3 = .ok (.aload_n 0, 1) := by decide +kernel
theorem dX4_raiseLows_4 : decode cX4_raiseLows 4 = .ok (.getfield 43, 3) := by decide +kernel
theorem dX4_raiseLows_7 : decode cX4_raiseLows 7 = .ok (.if_icmp .ge 17, 3) := by decide +kernel
theorem dX4_raiseLows_10 : decode cX4_raiseLows 10 = .ok (.aload_n 0, 1) := by decide +kernel
theorem dX4_raiseLows_11 : decode cX4_raiseLows 11 = .ok (.iload_n 1, 1) := by decide +kernel
theorem dX4_raiseLows_12 : decode cX4_raiseLows 12 = .ok (.iload_n 1, 1) := by decide +kernel
theorem dX4_raiseLows_13 : decode cX4_raiseLows 13 = .ok (.bipush 18, 2) := by decide +kernel
theorem dX4_raiseLows_15 : decode cX4_raiseLows 15 = .ok (.invokevirtual 91, 3) := by decide +kernel
theorem dX4_raiseLows_18 : decode cX4_raiseLows 18 = .ok (.iinc 1 1, 3) := by decide +kernel
theorem dX4_raiseLows_21 : decode cX4_raiseLows 21 = .ok (.goto (-19), 3) := by decide +kernel
theorem dX4_raiseLows_24 : decode cX4_raiseLows 24 = .ok (.iconst 0, 1) := by decide +kernel
theorem dX4_raiseLows_25 : decode cX4_raiseLows 25 = .ok (.istore_n 1, 1) := by decide +kernel
theorem dX4_raiseLows_26 : decode cX4_raiseLows 26 = .ok (.iload_n 1, 1) := by decide +kernel
theorem dX4_raiseLows_27 : decode cX4_raiseLows 27 = .ok (.aload_n 0, 1) := by decide +kernel
theorem dX4_raiseLows_28 : decode cX4_raiseLows 28 = .ok (.getfield 46, 3) := by decide +kernel
theorem dX4_raiseLows_31 : decode cX4_raiseLows 31 = .ok (.if_icmp .ge 23, 3) := by decide +kernel
theorem dX4_raiseLows_34 : decode cX4_raiseLows 34 = .ok (.aload_n 0, 1) := by decide +kernel
theorem dX4_raiseLows_35 : decode cX4_raiseLows 35 = .ok (.bipush 8, 2) := by decide +kernel
theorem dX4_raiseLows_37 : decode cX4_raiseLows 37 = .ok (.iload_n 1, 1) := by decide +kernel
theorem dX4_raiseLows_38 : decode cX4_raiseLows 38 = .ok (.iadd, 1) := by decide +kernel
theorem dX4_raiseLows_39 : decode cX4_raiseLows 39 = .ok (.bipush 19, 2) := by decide +kernel
theorem dX4_raiseLows_41 : decode cX4_raiseLows 41 = .ok (.bipush 8, 2) := by decide +kernel
theorem dX4_raiseLows_43 : decode cX4_raiseLows 43 = .ok (.iload_n 1, 1) := by decide +kernel
theorem dX4_raiseLows_44 : decode cX4_raiseLows 44 = .ok (.iadd, 1) := by decide +kernel
theorem dX4_raiseLows_45 : decode cX4_raiseLows 45 = .ok (.invokevirtual 91, 3) := by decide +kernel
theorem dX4_raiseLows_48 : decode cX4_raiseLows 48 = .ok (.iinc 1 1, 3) := by decide +kernel
theorem dX4_raiseLows_51 : decode cX4_raiseLows 51 = .ok (.goto (-25), 3) := by decide +kernel
theorem dX4_raiseLows_54 : decode cX4_raiseLows 54 = .ok (.aload_n 0, 1) := by decide +kernel
theorem dX4_raiseLows_55 : decode cX4_raiseLows 55 = .ok (.bipush 18, 2) := by decide +kernel
theorem dX4_raiseLows_57 : decode cX4_raiseLows 57 = .ok (.bipush 18, 2) := by decide +kernel
theorem dX4_raiseLows_59 : decode cX4_raiseLows 59 = .ok (.bipush 19, 2) := by decide +kernel
theorem dX4_raiseLows_61 : decode cX4_raiseLows 61 = .ok (.invokevirtual 91, 3) := by decide +kernel
theorem dX4_raiseLows_64 : decode cX4_raiseLows 64 = .ok (.return_, 1) := by decide +kernel
theorem dX4_raise_0 : decode cX4_raise 0 = .ok (.iconst 0, 1) := by decide +kernel
theorem dX4_raise_1 : decode cX4_raise 1 = .ok (.istore 4, 2) := by decide +kernel
theorem dX4_raise_3 : decode cX4_raise 3 = .ok (.iload 4, 2) := by decide +kernel
theorem dX4_raise_5 : decode cX4_raise 5 = .ok (.bipush 82, 2) := by decide +kernel
theorem dX4_raise_7 : decode cX4_raise 7 = .ok (.if_icmp .ge 44, 3) := by decide +kernel
theorem dX4_raise_10 : decode cX4_raise 10 = .ok (.aload_n 0, 1) := by decide +kernel
theorem dX4_raise_11 : decode cX4_raise 11 = .ok (.getfield 28, 3) := by decide +kernel
theorem dX4_raise_14 : decode cX4_raise 14 = .ok (.iload_n 1, 1) := by decide +kernel
theorem dX4_raise_15 : decode cX4_raise 15 = .ok (.iaload, 1) := by decide +kernel
theorem dX4_raise_16 : decode cX4_raise 16 = .ok (.aload_n 0, 1) := by decide +kernel
theorem dX4_raise_17 : decode cX4_raise 17 = .ok (.getfield 31, 3) := by decide +kernel
theorem dX4_raise_20 : decode cX4_raise 20 = .ok (.iload_n 1, 1) := by decide +kernel
theorem dX4_raise_21 : decode cX4_raise 21 = .ok (.iaload, 1) := by decide +kernel
theorem dX4_raise_22 : decode cX4_raise 22 = .ok (.if_icmp .ge 29, 3) := by decide +kernel
theorem dX4_raise_25 : decode cX4_raise 25 = .ok (.aload_n 0, 1) := by decide +kernel
theorem dX4_raise_26 : decode cX4_raise 26 = .ok (.iload_n 2, 1) := by decide +kernel
theorem dX4_raise_27 : decode cX4_raise 27 = .ok (.iload_n 3, 1) := by decide +kernel
theorem dX4_raise_28 : decode cX4_raise 28 = .ok (.invokevirtual 95, 3) := by decide +kernel
theorem dX4_raise_31 : decode cX4_raise 31 = .ok (.ifCond .ne 4, 3) := by decide +kernel
theorem dX4_raise_34 : decode cX4_raise 34 = .ok (.return_, 1) := by decide +kernel
theorem dX4_raise_35 : decode cX4_raise 35 = .ok (.aload_n 0, 1) := by decide +kernel
theorem dX4_raise_36 : decode cX4_raise 36 = .ok (.getfield 28, 3) := by decide +kernel
theorem dX4_raise_39 : decode cX4_raise 39 = .ok (.iload_n 1, 1) := by decide +kernel
theorem dX4_raise_40 : decode cX4_raise 40 = .ok (.dup2, 1) := by decide +kernel
theorem dX4_raise_41 : decode cX4_raise 41 = .ok (.iaload, 1) := by decide +kernel
theorem dX4_raise_42 : decode cX4_raise 42 = .ok (.iconst 1, 1) := by decide +kernel
theorem dX4_raise_43 : decode cX4_raise 43 = .ok (.iadd, 1) := by decide +kernel
theorem dX4_raise_44 : decode cX4_raise 44 = .ok (.iastore, 1) := by decide +kernel
theorem dX4_raise_45 : decode cX4_raise 45 = .ok (.iinc 4 1, 3) := by decide +kernel
theorem dX4_raise_48 : decode cX4_raise 48 = .ok (.goto (-45), 3) := by decide +kernel
theorem dX4_raise_51 : decode cX4_raise 51 = .ok (.return_, 1) := by decide +kernel
theorem dX4_lowerInOrder_0 : decode cX4_lowerInOrder 0 = .ok (.iconst 0, 1) := by decide +kernel
theorem dX4_lowerInOrder_1 : decode cX4_lowerInOrder 1 = .ok (.istore_n 1, 1) := by decide +kernel
theorem dX4_lowerInOrder_2 : decode cX4_lowerInOrder 2 = .ok (.iload_n 1, 1) := by decide +kernel
theorem dX4_lowerInOrder_3 : decode cX4_lowerInOrder 3 = .ok (.aload_n 0, 1) := by decide +kernel
theorem dX4_lowerInOrder_4 : decode cX4_lowerInOrder 4 = .ok (.getfield 43, 3) := by decide +kernel
theorem dX4_lowerInOrder_7 : decode cX4_lowerInOrder 7 = .ok (.if_icmp .ge 84, 3) := by decide +kernel
theorem dX4_lowerInOrder_10 : decode cX4_lowerInOrder 10 = .ok (.aload_n 0, 1) := by decide +kernel
theorem dX4_lowerInOrder_11 : decode cX4_lowerInOrder 11 = .ok (.getfield 25, 3) := by decide +kernel
theorem dX4_lowerInOrder_14 : decode cX4_lowerInOrder 14 = .ok (.iload_n 1, 1) := by decide +kernel
theorem dX4_lowerInOrder_15 : decode cX4_lowerInOrder 15 = .ok (.iaload, 1) := by decide +kernel
theorem dX4_lowerInOrder_16 : decode cX4_lowerInOrder 16 = .ok (.istore_n 2, 1) := by decide +kernel
theorem dX4_lowerInOrder_17 : decode cX4_lowerInOrder 17 = .ok (.iload_n 2, 1) := by decide +kernel
theorem dX4_lowerInOrder_18 : decode cX4_lowerInOrder 18 = .ok (.ifCond .eq 67, 3) := by decide +kernel
theorem dX4_lowerInOrder_21 : decode cX4_lowerInOrder 21 = .ok (.iload_n 2, 1) := by decide +kernel
theorem dX4_lowerInOrder_22 : decode cX4_lowerInOrder 22 = .ok (.iload_n 2, 1) := by decide +kernel
theorem dX4_lowerInOrder_23 : decode cX4_lowerInOrder 23 = .ok (.ineg, 1) := by decide +kernel
theorem dX4_lowerInOrder_24 : decode cX4_lowerInOrder 24 = .ok (.iand, 1) := by decide +kernel
theorem dX4_lowerInOrder_25 : decode cX4_lowerInOrder 25 = .ok (.istore_n 3, 1) := by decide +kernel
theorem dX4_lowerInOrder_26 : decode cX4_lowerInOrder 26 = .ok (.aload_n 0, 1) := by decide +kernel
theorem dX4_lowerInOrder_27 : decode cX4_lowerInOrder 27 = .ok (.getfield 25, 3) := by decide +kernel
theorem dX4_lowerInOrder_30 : decode cX4_lowerInOrder 30 = .ok (.iload_n 1, 1) := by decide +kernel
theorem dX4_lowerInOrder_31 : decode cX4_lowerInOrder 31 = .ok (.dup2, 1) := by decide +kernel
theorem dX4_lowerInOrder_32 : decode cX4_lowerInOrder 32 = .ok (.iaload, 1) := by decide +kernel
theorem dX4_lowerInOrder_33 : decode cX4_lowerInOrder 33 = .ok (.iload_n 3, 1) := by decide +kernel
theorem dX4_lowerInOrder_34 : decode cX4_lowerInOrder 34 = .ok (.iconst (-1), 1) := by decide +kernel
theorem dX4_lowerInOrder_35 : decode cX4_lowerInOrder 35 = .ok (.ixor, 1) := by decide +kernel
theorem dX4_lowerInOrder_36 : decode cX4_lowerInOrder 36 = .ok (.iand, 1) := by decide +kernel
theorem dX4_lowerInOrder_37 : decode cX4_lowerInOrder 37 = .ok (.iastore, 1) := by decide +kernel
theorem dX4_lowerInOrder_38 : decode cX4_lowerInOrder 38 = .ok (.aload_n 0, 1) := by decide +kernel
theorem dX4_lowerInOrder_39 : decode cX4_lowerInOrder 39 = .ok (.getfield 22, 3) := by decide +kernel
theorem dX4_lowerInOrder_42 : decode cX4_lowerInOrder 42 = .ok (.iload_n 1, 1) := by decide +kernel
theorem dX4_lowerInOrder_43 : decode cX4_lowerInOrder 43 = .ok (.iaload, 1) := by decide +kernel
theorem dX4_lowerInOrder_44 : decode cX4_lowerInOrder 44 = .ok (.iload_n 3, 1) := by decide +kernel
theorem dX4_lowerInOrder_45 : decode cX4_lowerInOrder 45 = .ok (.iand, 1) := by decide +kernel
theorem dX4_lowerInOrder_46 : decode cX4_lowerInOrder 46 = .ok (.ifCond .eq 30, 3) := by decide +kernel
theorem dX4_lowerInOrder_49 : decode cX4_lowerInOrder 49 = .ok (.aload_n 0, 1) := by decide +kernel
theorem dX4_lowerInOrder_50 : decode cX4_lowerInOrder 50 = .ok (.iload_n 1, 1) := by decide +kernel
theorem dX4_lowerInOrder_51 : decode cX4_lowerInOrder 51 = .ok (.bipush 8, 2) := by decide +kernel
theorem dX4_lowerInOrder_53 : decode cX4_lowerInOrder 53 = .ok (.iload_n 2, 1) := by decide +kernel
theorem dX4_lowerInOrder_54 : decode cX4_lowerInOrder 54 = .ok (.invokestatic 79, 3) := by decide +kernel
theorem dX4_lowerInOrder_57 : decode cX4_lowerInOrder 57 = .ok (.iadd, 1) := by decide +kernel
theorem dX4_lowerInOrder_58 : decode cX4_lowerInOrder 58 = .ok (.invokevirtual 95, 3) := by decide +kernel
theorem dX4_lowerInOrder_61 : decode cX4_lowerInOrder 61 = .ok (.ifCond .eq 15, 3) := by decide +kernel
theorem dX4_lowerInOrder_64 : decode cX4_lowerInOrder 64 = .ok (.aload_n 0, 1) := by decide +kernel
theorem dX4_lowerInOrder_65 : decode cX4_lowerInOrder 65 = .ok (.getfield 22, 3) := by decide +kernel
theorem dX4_lowerInOrder_68 : decode cX4_lowerInOrder 68 = .ok (.iload_n 1, 1) := by decide +kernel
theorem dX4_lowerInOrder_69 : decode cX4_lowerInOrder 69 = .ok (.dup2, 1) := by decide +kernel
theorem dX4_lowerInOrder_70 : decode cX4_lowerInOrder 70 = .ok (.iaload, 1) := by decide +kernel
theorem dX4_lowerInOrder_71 : decode cX4_lowerInOrder 71 = .ok (.iload_n 3, 1) := by decide +kernel
theorem dX4_lowerInOrder_72 : decode cX4_lowerInOrder 72 = .ok (.iconst (-1), 1) := by decide +kernel
theorem dX4_lowerInOrder_73 : decode cX4_lowerInOrder 73 = .ok (.ixor, 1) := by decide +kernel
theorem dX4_lowerInOrder_74 : decode cX4_lowerInOrder 74 = .ok (.iand, 1) := by decide +kernel
theorem dX4_lowerInOrder_75 : decode cX4_lowerInOrder 75 = .ok (.iastore, 1) := by decide +kernel
theorem dX4_lowerInOrder_76 : decode cX4_lowerInOrder 76 = .ok (.iload_n 2, 1) := by decide +kernel
theorem dX4_lowerInOrder_77 : decode cX4_lowerInOrder 77 = .ok (.iload_n 2, 1) := by decide +kernel
theorem dX4_lowerInOrder_78 : decode cX4_lowerInOrder 78 = .ok (.iconst 1, 1) := by decide +kernel
theorem dX4_lowerInOrder_79 : decode cX4_lowerInOrder 79 = .ok (.isub, 1) := by decide +kernel
theorem dX4_lowerInOrder_80 : decode cX4_lowerInOrder 80 = .ok (.iand, 1) := by decide +kernel
theorem dX4_lowerInOrder_81 : decode cX4_lowerInOrder 81 = .ok (.istore_n 2, 1) := by decide +kernel
theorem dX4_lowerInOrder_82 : decode cX4_lowerInOrder 82 = .ok (.goto (-65), 3) := by decide +kernel
theorem dX4_lowerInOrder_85 : decode cX4_lowerInOrder 85 = .ok (.iinc 1 1, 3) := by decide +kernel
theorem dX4_lowerInOrder_88 : decode cX4_lowerInOrder 88 = .ok (.goto (-86), 3) := by decide +kernel
theorem dX4_lowerInOrder_91 : decode cX4_lowerInOrder 91 = .ok (.return_, 1) := by decide +kernel
theorem dX4_sendOne_0 : decode cX4_sendOne 0 = .ok (.aload_n 0, 1) := by decide +kernel
theorem dX4_sendOne_1 : decode cX4_sendOne 1 = .ok (.iload_n 1, 1) := by decide +kernel
theorem dX4_sendOne_2 : decode cX4_sendOne 2 = .ok (.iload_n 2, 1) := by decide +kernel
theorem dX4_sendOne_3 : decode cX4_sendOne 3 = .ok (.invokevirtual 99, 3) := by decide +kernel
theorem dX4_sendOne_6 : decode cX4_sendOne 6 = .ok (.ifCond .ne 5, 3) := by decide +kernel
theorem dX4_sendOne_9 : decode cX4_sendOne 9 = .ok (.iconst 0, 1) := by decide +kernel
theorem dX4_sendOne_10 : decode cX4_sendOne 10 = .ok (.ireturn, 1) := by decide +kernel
theorem dX4_sendOne_11 : decode cX4_sendOne 11 = .ok (.iload_n 2, 1) := by decide +kernel
theorem dX4_sendOne_12 : decode cX4_sendOne 12 = .ok (.istore_n 3, 1) := by decide +kernel
theorem dX4_sendOne_13 : decode cX4_sendOne 13 = .ok (.iconst 0, 1) := by decide +kernel
theorem dX4_sendOne_14 : decode cX4_sendOne 14 = .ok (.istore 4, 2) := by decide +kernel
theorem dX4_sendOne_16 : decode cX4_sendOne 16 = .ok (.iload 4, 2) := by decide +kernel
theorem dX4_sendOne_18 : decode cX4_sendOne 18 = .ok (.bipush 20, 2) := by decide +kernel
theorem dX4_sendOne_20 : decode cX4_sendOne 20 = .ok (.if_icmp .ge 32, 3) := by decide +kernel
theorem dX4_sendOne_23 : decode cX4_sendOne 23 = .ok (.iload_n 3, 1) := by decide +kernel
theorem dX4_sendOne_24 : decode cX4_sendOne 24 = .ok (.iload_n 1, 1) := by decide +kernel
theorem dX4_sendOne_25 : decode cX4_sendOne 25 = .ok (.if_icmp .eq 27, 3) := by decide +kernel
theorem dX4_sendOne_28 : decode cX4_sendOne 28 = .ok (.aload_n 0, 1) := by decide +kernel
theorem dX4_sendOne_29 : decode cX4_sendOne 29 = .ok (.aload_n 0, 1) := by decide +kernel
theorem dX4_sendOne_30 : decode cX4_sendOne 30 = .ok (.getfield 37, 3) := by decide +kernel
theorem dX4_sendOne_33 : decode cX4_sendOne 33 = .ok (.iload_n 3, 1) := by decide +kernel
theorem dX4_sendOne_34 : decode cX4_sendOne 34 = .ok (.iaload, 1) := by decide +kernel
theorem dX4_sendOne_35 : decode cX4_sendOne 35 = .ok (.iload_n 3, 1) := by decide +kernel
theorem dX4_sendOne_36 : decode cX4_sendOne 36 = .ok (.invokevirtual 102, 3) := by decide +kernel
theorem dX4_sendOne_39 : decode cX4_sendOne 39 = .ok (.aload_n 0, 1) := by decide +kernel
theorem dX4_sendOne_40 : decode cX4_sendOne 40 = .ok (.getfield 37, 3) := by decide +kernel
theorem dX4_sendOne_43 : decode cX4_sendOne 43 = .ok (.iload_n 3, 1) := by decide +kernel
theorem dX4_sendOne_44 : decode cX4_sendOne 44 = .ok (.iaload, 1) := by decide +kernel
theorem dX4_sendOne_45 : decode cX4_sendOne 45 = .ok (.istore_n 3, 1) := by decide +kernel
theorem dX4_sendOne_46 : decode cX4_sendOne 46 = .ok (.iinc 4 1, 3) := by decide +kernel
theorem dX4_sendOne_49 : decode cX4_sendOne 49 = .ok (.goto (-33), 3) := by decide +kernel
theorem dX4_sendOne_52 : decode cX4_sendOne 52 = .ok (.iconst 1, 1) := by decide +kernel
theorem dX4_sendOne_53 : decode cX4_sendOne 53 = .ok (.ireturn, 1) := by decide +kernel
theorem dX4_findWay_0 : decode cX4_findWay 0 = .ok (.iconst 1, 1) := by decide +kernel
theorem dX4_findWay_1 : decode cX4_findWay 1 = .ok (.iload_n 1, 1) := by decide +kernel
theorem dX4_findWay_2 : decode cX4_findWay 2 = .ok (.ishl, 1) := by decide +kernel
theorem dX4_findWay_3 : decode cX4_findWay 3 = .ok (.istore_n 3, 1) := by decide +kernel
theorem dX4_findWay_4 : decode cX4_findWay 4 = .ok (.iconst 1, 1) := by decide +kernel
theorem dX4_findWay_5 : decode cX4_findWay 5 = .ok (.istore 4, 2) := by decide +kernel
theorem dX4_findWay_7 : decode cX4_findWay 7 = .ok (.aload_n 0, 1) := by decide +kernel
theorem dX4_findWay_8 : decode cX4_findWay 8 = .ok (.getfield 40, 3) := by decide +kernel
theorem dX4_findWay_11 : decode cX4_findWay 11 = .ok (.iconst 0, 1) := by decide +kernel
theorem dX4_findWay_12 : decode cX4_findWay 12 = .ok (.iload_n 1, 1) := by decide +kernel
theorem dX4_findWay_13 : decode cX4_findWay 13 = .ok (.iastore, 1) := by decide +kernel
theorem dX4_findWay_14 : decode cX4_findWay 14 = .ok (.iconst 0, 1) := by decide +kernel
theorem dX4_findWay_15 : decode cX4_findWay 15 = .ok (.istore 5, 2) := by decide +kernel
theorem dX4_findWay_17 : decode cX4_findWay 17 = .ok (.iload 5, 2) := by decide +kernel
theorem dX4_findWay_19 : decode cX4_findWay 19 = .ok (.iload 4, 2) := by decide +kernel
theorem dX4_findWay_21 : decode cX4_findWay 21 = .ok (.if_icmp .ge 102, 3) := by decide +kernel
theorem dX4_findWay_24 : decode cX4_findWay 24 = .ok (.iload 5, 2) := by decide +kernel
theorem dX4_findWay_26 : decode cX4_findWay 26 = .ok (.bipush 20, 2) := by decide +kernel
theorem dX4_findWay_28 : decode cX4_findWay 28 = .ok (.if_icmp .ge 95, 3) := by decide +kernel
theorem dX4_findWay_31 : decode cX4_findWay 31 = .ok (.aload_n 0, 1) := by decide +kernel
theorem dX4_findWay_32 : decode cX4_findWay 32 = .ok (.getfield 40, 3) := by decide +kernel
theorem dX4_findWay_35 : decode cX4_findWay 35 = .ok (.iload 5, 2) := by decide +kernel
theorem dX4_findWay_37 : decode cX4_findWay 37 = .ok (.iaload, 1) := by decide +kernel
theorem dX4_findWay_38 : decode cX4_findWay 38 = .ok (.istore 6, 2) := by decide +kernel
theorem dX4_findWay_40 : decode cX4_findWay 40 = .ok (.aload_n 0, 1) := by decide +kernel
theorem dX4_findWay_41 : decode cX4_findWay 41 = .ok (.iload 6, 2) := by decide +kernel
theorem dX4_findWay_43 : decode cX4_findWay 43 = .ok (.invokevirtual 105, 3) := by decide +kernel
theorem dX4_findWay_46 : decode cX4_findWay 46 = .ok (.iload_n 3, 1) := by decide +kernel
theorem dX4_findWay_47 : decode cX4_findWay 47 = .ok (.iconst (-1), 1) := by decide +kernel
theorem dX4_findWay_48 : decode cX4_findWay 48 = .ok (.ixor, 1) := by decide +kernel
theorem dX4_findWay_49 : decode cX4_findWay 49 = .ok (.iand, 1) := by decide +kernel
theorem dX4_findWay_50 : decode cX4_findWay 50 = .ok (.istore 7, 2) := by decide +kernel
theorem dX4_findWay_52 : decode cX4_findWay 52 = .ok (.iload_n 3, 1) := by decide +kernel
theorem dX4_findWay_53 : decode cX4_findWay 53 = .ok (.iload 7, 2) := by decide +kernel
theorem dX4_findWay_55 : decode cX4_findWay 55 = .ok (.ior, 1) := by decide +kernel
theorem dX4_findWay_56 : decode cX4_findWay 56 = .ok (.istore_n 3, 1) := by decide +kernel
theorem dX4_findWay_57 : decode cX4_findWay 57 = .ok (.iload 7, 2) := by decide +kernel
theorem dX4_findWay_59 : decode cX4_findWay 59 = .ok (.ifCond .eq 58, 3) := by decide +kernel
theorem dX4_findWay_62 : decode cX4_findWay 62 = .ok (.iload 7, 2) := by decide +kernel
theorem dX4_findWay_64 : decode cX4_findWay 64 = .ok (.invokestatic 79, 3) := by decide +kernel
theorem dX4_findWay_67 : decode cX4_findWay 67 = .ok (.istore 8, 2) := by decide +kernel
theorem dX4_findWay_69 : decode cX4_findWay 69 = .ok (.aload_n 0, 1) := by decide +kernel
theorem dX4_findWay_70 : decode cX4_findWay 70 = .ok (.getfield 37, 3) := by decide +kernel
theorem dX4_findWay_73 : decode cX4_findWay 73 = .ok (.iload 8, 2) := by decide +kernel
theorem dX4_findWay_75 : decode cX4_findWay 75 = .ok (.iload 6, 2) := by decide +kernel
theorem dX4_findWay_77 : decode cX4_findWay 77 = .ok (.iastore, 1) := by decide +kernel
theorem dX4_findWay_78 : decode cX4_findWay 78 = .ok (.iload 8, 2) := by decide +kernel
theorem dX4_findWay_80 : decode cX4_findWay 80 = .ok (.iload_n 2, 1) := by decide +kernel
theorem dX4_findWay_81 : decode cX4_findWay 81 = .ok (.if_icmp .ne 5, 3) := by decide +kernel
theorem dX4_findWay_84 : decode cX4_findWay 84 = .ok (.iconst 1, 1) := by decide +kernel
theorem dX4_findWay_85 : decode cX4_findWay 85 = .ok (.ireturn, 1) := by decide +kernel
theorem dX4_findWay_86 : decode cX4_findWay 86 = .ok (.iload 4, 2) := by decide +kernel
theorem dX4_findWay_88 : decode cX4_findWay 88 = .ok (.bipush 20, 2) := by decide +kernel
theorem dX4_findWay_90 : decode cX4_findWay 90 = .ok (.if_icmp .ge 15, 3) := by decide +kernel
theorem dX4_findWay_93 : decode cX4_findWay 93 = .ok (.aload_n 0, 1) := by decide +kernel
theorem dX4_findWay_94 : decode cX4_findWay 94 = .ok (.getfield 40, 3) := by decide +kernel
theorem dX4_findWay_97 : decode cX4_findWay 97 = .ok (.iload 4, 2) := by decide +kernel
theorem dX4_findWay_99 : decode cX4_findWay 99 = .ok (.iload 8, 2) := by decide +kernel
theorem dX4_findWay_101 : decode cX4_findWay 101 = .ok (.iastore, 1) := by decide +kernel
theorem dX4_findWay_102 : decode cX4_findWay 102 = .ok (.iinc 4 1, 3) := by decide +kernel
theorem dX4_findWay_105 : decode cX4_findWay 105 = .ok (.iload 7, 2) := by decide +kernel
theorem dX4_findWay_107 : decode cX4_findWay 107 = .ok (.iload 7, 2) := by decide +kernel
theorem dX4_findWay_109 : decode cX4_findWay 109 = .ok (.iconst 1, 1) := by decide +kernel
theorem dX4_findWay_110 : decode cX4_findWay 110 = .ok (.isub, 1) := by decide +kernel
theorem dX4_findWay_111 : decode cX4_findWay 111 = .ok (.iand, 1) := by decide +kernel
theorem dX4_findWay_112 : decode cX4_findWay 112 = .ok (.istore 7, 2) := by decide +kernel
theorem dX4_findWay_114 : decode cX4_findWay 114 = .ok (.goto (-57), 3) := by decide +kernel
theorem dX4_findWay_117 : decode cX4_findWay 117 = .ok (.iinc 5 1, 3) := by decide +kernel
theorem dX4_findWay_120 : decode cX4_findWay 120 = .ok (.goto (-103), 3) := by decide +kernel
theorem dX4_findWay_123 : decode cX4_findWay 123 = .ok (.iconst 0, 1) := by decide +kernel
theorem dX4_findWay_124 : decode cX4_findWay 124 = .ok (.ireturn, 1) := by decide +kernel
theorem dX4_reach_0 : decode cX4_reach 0 = .ok (.iload_n 1, 1) := by decide +kernel
theorem dX4_reach_1 : decode cX4_reach 1 = .ok (.bipush 8, 2) := by decide +kernel
theorem dX4_reach_3 : decode cX4_reach 3 = .ok (.if_icmp .ge 46, 3) := by decide +kernel
theorem dX4_reach_6 : decode cX4_reach 6 = .ok (.aload_n 0, 1) := by decide +kernel
theorem dX4_reach_7 : decode cX4_reach 7 = .ok (.getfield 25, 3) := by decide +kernel
theorem dX4_reach_10 : decode cX4_reach 10 = .ok (.iload_n 1, 1) := by decide +kernel
theorem dX4_reach_11 : decode cX4_reach 11 = .ok (.iaload, 1) := by decide +kernel
theorem dX4_reach_12 : decode cX4_reach 12 = .ok (.aload_n 0, 1) := by decide +kernel
theorem dX4_reach_13 : decode cX4_reach 13 = .ok (.getfield 22, 3) := by decide +kernel
theorem dX4_reach_16 : decode cX4_reach 16 = .ok (.iload_n 1, 1) := by decide +kernel
theorem dX4_reach_17 : decode cX4_reach 17 = .ok (.iaload, 1) := by decide +kernel
theorem dX4_reach_18 : decode cX4_reach 18 = .ok (.iconst (-1), 1) := by decide +kernel
theorem dX4_reach_19 : decode cX4_reach 19 = .ok (.ixor, 1) := by decide +kernel
theorem dX4_reach_20 : decode cX4_reach 20 = .ok (.iand, 1) := by decide +kernel
theorem dX4_reach_21 : decode cX4_reach 21 = .ok (.bipush 8, 2) := by decide +kernel
theorem dX4_reach_23 : decode cX4_reach 23 = .ok (.ishl, 1) := by decide +kernel
theorem dX4_reach_24 : decode cX4_reach 24 = .ok (.istore_n 2, 1) := by decide +kernel
theorem dX4_reach_25 : decode cX4_reach 25 = .ok (.aload_n 0, 1) := by decide +kernel
theorem dX4_reach_26 : decode cX4_reach 26 = .ok (.getfield 28, 3) := by decide +kernel
theorem dX4_reach_29 : decode cX4_reach 29 = .ok (.iload_n 1, 1) := by decide +kernel
theorem dX4_reach_30 : decode cX4_reach 30 = .ok (.iaload, 1) := by decide +kernel
theorem dX4_reach_31 : decode cX4_reach 31 = .ok (.aload_n 0, 1) := by decide +kernel
theorem dX4_reach_32 : decode cX4_reach 32 = .ok (.getfield 31, 3) := by decide +kernel
theorem dX4_reach_35 : decode cX4_reach 35 = .ok (.iload_n 1, 1) := by decide +kernel
theorem dX4_reach_36 : decode cX4_reach 36 = .ok (.iaload, 1) := by decide +kernel
theorem dX4_reach_37 : decode cX4_reach 37 = .ok (.if_icmp .le 10, 3) := by decide +kernel
theorem dX4_reach_40 : decode cX4_reach 40 = .ok (.iload_n 2, 1) := by decide +kernel
theorem dX4_reach_41 : decode cX4_reach 41 = .ok (.ldc 108, 2) := by decide +kernel
theorem dX4_reach_43 : decode cX4_reach 43 = .ok (.ior, 1) := by decide +kernel
theorem dX4_reach_44 : decode cX4_reach 44 = .ok (.goto 4, 3) := by decide +kernel
theorem dX4_reach_47 : decode cX4_reach 47 = .ok (.iload_n 2, 1) := by decide +kernel
theorem dX4_reach_48 : decode cX4_reach 48 = .ok (.ireturn, 1) := by decide +kernel
theorem dX4_reach_49 : decode cX4_reach 49 = .ok (.iload_n 1, 1) := by decide +kernel
theorem dX4_reach_50 : decode cX4_reach 50 = .ok (.bipush 18, 2) := by decide +kernel
theorem dX4_reach_52 : decode cX4_reach 52 = .ok (.if_icmp .ge 12, 3) := by decide +kernel
theorem dX4_reach_55 : decode cX4_reach 55 = .ok (.aload_n 0, 1) := by decide +kernel
theorem dX4_reach_56 : decode cX4_reach 56 = .ok (.iload_n 1, 1) := by decide +kernel
theorem dX4_reach_57 : decode cX4_reach 57 = .ok (.bipush 8, 2) := by decide +kernel
theorem dX4_reach_59 : decode cX4_reach 59 = .ok (.isub, 1) := by decide +kernel
theorem dX4_reach_60 : decode cX4_reach 60 = .ok (.invokevirtual 109, 3) := by decide +kernel
theorem dX4_reach_63 : decode cX4_reach 63 = .ok (.ireturn, 1) := by decide +kernel
theorem dX4_reach_64 : decode cX4_reach 64 = .ok (.iload_n 1, 1) := by decide +kernel
theorem dX4_reach_65 : decode cX4_reach 65 = .ok (.bipush 18, 2) := by decide +kernel
theorem dX4_reach_67 : decode cX4_reach 67 = .ok (.if_icmp .ne 10, 3) := by decide +kernel
theorem dX4_reach_70 : decode cX4_reach 70 = .ok (.aload_n 0, 1) := by decide +kernel
theorem dX4_reach_71 : decode cX4_reach 71 = .ok (.invokevirtual 112, 3) := by decide +kernel
theorem dX4_reach_74 : decode cX4_reach 74 = .ok (.goto 7, 3) := by decide +kernel
theorem dX4_reach_77 : decode cX4_reach 77 = .ok (.aload_n 0, 1) := by decide +kernel
theorem dX4_reach_78 : decode cX4_reach 78 = .ok (.invokevirtual 116, 3) := by decide +kernel
theorem dX4_reach_81 : decode cX4_reach 81 = .ok (.ireturn, 1) := by decide +kernel
theorem dX4_reachOfHorse_0 : decode cX4_reachOfHorse 0 = .ok (.bipush 8, 2) := by decide +kernel
theorem dX4_reachOfHorse_2 : decode cX4_reachOfHorse 2 = .ok (.iload_n 1, 1) := by decide +kernel
theorem dX4_reachOfHorse_3 : decode cX4_reachOfHorse 3 = .ok (.iadd, 1) := by decide +kernel
theorem dX4_reachOfHorse_4 : decode cX4_reachOfHorse 4 = .ok (.istore_n 2, 1) := by decide +kernel
theorem dX4_reachOfHorse_5 : decode cX4_reachOfHorse 5 = .ok (.aload_n 0, 1) := by decide +kernel
theorem dX4_reachOfHorse_6 : decode cX4_reachOfHorse 6 = .ok (.getfield 28, 3) := by decide +kernel
theorem dX4_reachOfHorse_9 : decode cX4_reachOfHorse 9 = .ok (.iload_n 2, 1) := by decide +kernel
theorem dX4_reachOfHorse_10 : decode cX4_reachOfHorse 10 = .ok (.iaload, 1) := by decide +kernel
theorem dX4_reachOfHorse_11 : decode cX4_reachOfHorse 11 = .ok (.aload_n 0, 1) := by decide +kernel
theorem dX4_reachOfHorse_12 : decode cX4_reachOfHorse 12 = .ok (.getfield 34, 3) := by decide +kernel
theorem dX4_reachOfHorse_15 : decode cX4_reachOfHorse 15 = .ok (.iload_n 2, 1) := by decide +kernel
theorem dX4_reachOfHorse_16 : decode cX4_reachOfHorse 16 = .ok (.iaload, 1) := by decide +kernel
theorem dX4_reachOfHorse_17 : decode cX4_reachOfHorse 17 = .ok (.if_icmp .ge 8, 3) := by decide +kernel
theorem dX4_reachOfHorse_20 : decode cX4_reachOfHorse 20 = .ok (.ldc 119, 2) := by decide +kernel
theorem dX4_reachOfHorse_22 : decode cX4_reachOfHorse 22 = .ok (.goto 4, 3) := by decide +kernel
theorem dX4_reachOfHorse_25 : decode cX4_reachOfHorse 25 = .ok (.iconst 0, 1) := by decide +kernel
theorem dX4_reachOfHorse_26 : decode cX4_reachOfHorse 26 = .ok (.istore_n 3, 1) := by decide +kernel
theorem dX4_reachOfHorse_27 : decode cX4_reachOfHorse 27 = .ok (.iconst 0, 1) := by decide +kernel
theorem dX4_reachOfHorse_28 : decode cX4_reachOfHorse 28 = .ok (.istore 4, 2) := by decide +kernel
theorem dX4_reachOfHorse_30 : decode cX4_reachOfHorse 30 = .ok (.iload 4, 2) := by decide +kernel
theorem dX4_reachOfHorse_32 : decode cX4_reachOfHorse 32 = .ok (.aload_n 0, 1) := by decide +kernel
theorem dX4_reachOfHorse_33 : decode cX4_reachOfHorse 33 = .ok (.getfield 43, 3) := by decide +kernel
theorem dX4_reachOfHorse_36 : decode cX4_reachOfHorse 36 = .ok (.if_icmp .ge 38, 3) := by decide +kernel
theorem dX4_reachOfHorse_39 : decode cX4_reachOfHorse 39 = .ok (.aload_n 0, 1) := by decide +kernel
theorem dX4_reachOfHorse_40 : decode cX4_reachOfHorse 40 = .ok (.getfield 25, 3) := by decide +kernel
theorem dX4_reachOfHorse_43 : decode cX4_reachOfHorse 43 = .ok (.iload 4, 2) := by decide +kernel
theorem dX4_reachOfHorse_45 : decode cX4_reachOfHorse 45 = .ok (.iaload, 1) := by decide +kernel
theorem dX4_reachOfHorse_46 : decode cX4_reachOfHorse 46 = .ok (.aload_n 0, 1) := by decide +kernel
theorem dX4_reachOfHorse_47 : decode cX4_reachOfHorse 47 = .ok (.getfield 22, 3) := by decide +kernel
theorem dX4_reachOfHorse_50 : decode cX4_reachOfHorse 50 = .ok (.iload 4, 2) := by decide +kernel
theorem dX4_reachOfHorse_52 : decode cX4_reachOfHorse 52 = .ok (.iaload, 1) := by decide +kernel
theorem dX4_reachOfHorse_53 : decode cX4_reachOfHorse 53 = .ok (.iand, 1) := by decide +kernel
theorem dX4_reachOfHorse_54 : decode cX4_reachOfHorse 54 = .ok (.iconst 1, 1) := by decide +kernel
theorem dX4_reachOfHorse_55 : decode cX4_reachOfHorse 55 = .ok (.iload_n 1, 1) := by decide +kernel
theorem dX4_reachOfHorse_56 : decode cX4_reachOfHorse 56 = .ok (.ishl, 1) := by decide +kernel
theorem dX4_reachOfHorse_57 : decode cX4_reachOfHorse 57 = .ok (.iand, 1) := by decide +kernel
theorem dX4_reachOfHorse_58 : decode cX4_reachOfHorse 58 = .ok (.ifCond .eq 10, 3) := by decide +kernel
theorem dX4_reachOfHorse_61 : decode cX4_reachOfHorse 61 = .ok (.iload_n 3, 1) := by decide +kernel
theorem dX4_reachOfHorse_62 : decode cX4_reachOfHorse 62 = .ok (.iconst 1, 1) := by decide +kernel
theorem dX4_reachOfHorse_63 : decode cX4_reachOfHorse 63 = .ok (.iload 4, 2) := by decide +kernel
theorem dX4_reachOfHorse_65 : decode cX4_reachOfHorse 65 = .ok (.ishl, 1) := by decide +kernel
theorem dX4_reachOfHorse_66 : decode cX4_reachOfHorse 66 = .ok (.ior, 1) := by decide +kernel
theorem dX4_reachOfHorse_67 : decode cX4_reachOfHorse 67 = .ok (.istore_n 3, 1) := by decide +kernel
theorem dX4_reachOfHorse_68 : decode cX4_reachOfHorse 68 = .ok (.iinc 4 1, 3) := by decide +kernel
theorem dX4_reachOfHorse_71 : decode cX4_reachOfHorse 71 = .ok (.goto (-41), 3) := by decide +kernel
theorem dX4_reachOfHorse_74 : decode cX4_reachOfHorse 74 = .ok (.iload_n 3, 1) := by decide +kernel
theorem dX4_reachOfHorse_75 : decode cX4_reachOfHorse 75 = .ok (.ireturn, 1) := by decide +kernel
theorem dX4_reachOfSource_0 : decode cX4_reachOfSource 0 = .ok (.aload_n 0, 1) := by decide +kernel
theorem dX4_reachOfSource_1 : decode cX4_reachOfSource 1 = .ok (.getfield 28, 3) := by decide +kernel
theorem dX4_reachOfSource_4 : decode cX4_reachOfSource 4 = .ok (.bipush 18, 2) := by decide +kernel
theorem dX4_reachOfSource_6 : decode cX4_reachOfSource 6 = .ok (.iaload, 1) := by decide +kernel
theorem dX4_reachOfSource_7 : decode cX4_reachOfSource 7 = .ok (.aload_n 0, 1) := by decide +kernel
theorem dX4_reachOfSource_8 : decode cX4_reachOfSource 8 = .ok (.getfield 31, 3) := by decide +kernel
theorem dX4_reachOfSource_11 : decode cX4_reachOfSource 11 = .ok (.bipush 18, 2) := by decide +kernel
theorem dX4_reachOfSource_13 : decode cX4_reachOfSource 13 = .ok (.iaload, 1) := by decide +kernel
theorem dX4_reachOfSource_14 : decode cX4_reachOfSource 14 = .ok (.if_icmp .le 8, 3) := by decide +kernel
theorem dX4_reachOfSource_17 : decode cX4_reachOfSource 17 = .ok (.ldc 119, 2) := by decide +kernel
theorem dX4_reachOfSource_19 : decode cX4_reachOfSource 19 = .ok (.goto 4, 3) := by decide +kernel
theorem dX4_reachOfSource_22 : decode cX4_reachOfSource 22 = .ok (.iconst 0, 1) := by decide +kernel
theorem dX4_reachOfSource_23 : decode cX4_reachOfSource 23 = .ok (.istore_n 1, 1) := by decide +kernel
theorem dX4_reachOfSource_24 : decode cX4_reachOfSource 24 = .ok (.iconst 0, 1) := by decide +kernel
theorem dX4_reachOfSource_25 : decode cX4_reachOfSource 25 = .ok (.istore_n 2, 1) := by decide +kernel
theorem dX4_reachOfSource_26 : decode cX4_reachOfSource 26 = .ok (.iload_n 2, 1) := by decide +kernel
theorem dX4_reachOfSource_27 : decode cX4_reachOfSource 27 = .ok (.aload_n 0, 1) := by decide +kernel
theorem dX4_reachOfSource_28 : decode cX4_reachOfSource 28 = .ok (.getfield 43, 3) := by decide +kernel
theorem dX4_reachOfSource_31 : decode cX4_reachOfSource 31 = .ok (.if_icmp .ge 30, 3) := by decide +kernel
theorem dX4_reachOfSource_34 : decode cX4_reachOfSource 34 = .ok (.aload_n 0, 1) := by decide +kernel
theorem dX4_reachOfSource_35 : decode cX4_reachOfSource 35 = .ok (.getfield 28, 3) := by decide +kernel
theorem dX4_reachOfSource_38 : decode cX4_reachOfSource 38 = .ok (.iload_n 2, 1) := by decide +kernel
theorem dX4_reachOfSource_39 : decode cX4_reachOfSource 39 = .ok (.iaload, 1) := by decide +kernel
theorem dX4_reachOfSource_40 : decode cX4_reachOfSource 40 = .ok (.aload_n 0, 1) := by decide +kernel
theorem dX4_reachOfSource_41 : decode cX4_reachOfSource 41 = .ok (.getfield 34, 3) := by decide +kernel
theorem dX4_reachOfSource_44 : decode cX4_reachOfSource 44 = .ok (.iload_n 2, 1) := by decide +kernel
theorem dX4_reachOfSource_45 : decode cX4_reachOfSource 45 = .ok (.iaload, 1) := by decide +kernel
theorem dX4_reachOfSource_46 : decode cX4_reachOfSource 46 = .ok (.if_icmp .ge 9, 3) := by decide +kernel
theorem dX4_reachOfSource_49 : decode cX4_reachOfSource 49 = .ok (.iload_n 1, 1) := by decide +kernel
theorem dX4_reachOfSource_50 : decode cX4_reachOfSource 50 = .ok (.iconst 1, 1) := by decide +kernel
theorem dX4_reachOfSource_51 : decode cX4_reachOfSource 51 = .ok (.iload_n 2, 1) := by decide +kernel
theorem dX4_reachOfSource_52 : decode cX4_reachOfSource 52 = .ok (.ishl, 1) := by decide +kernel
theorem dX4_reachOfSource_53 : decode cX4_reachOfSource 53 = .ok (.ior, 1) := by decide +kernel
theorem dX4_reachOfSource_54 : decode cX4_reachOfSource 54 = .ok (.istore_n 1, 1) := by decide +kernel
theorem dX4_reachOfSource_55 : decode cX4_reachOfSource 55 = .ok (.iinc 2 1, 3) := by decide +kernel
theorem dX4_reachOfSource_58 : decode cX4_reachOfSource 58 = .ok (.goto (-32), 3) := by decide +kernel
theorem dX4_reachOfSource_61 : decode cX4_reachOfSource 61 = .ok (.iload_n 1, 1) := by decide +kernel
theorem dX4_reachOfSource_62 : decode cX4_reachOfSource 62 = .ok (.ireturn, 1) := by decide +kernel
theorem dX4_reachOfDrain_0 : decode cX4_reachOfDrain 0 = .ok (.aload_n 0, 1) := by decide +kernel
theorem dX4_reachOfDrain_1 : decode cX4_reachOfDrain 1 = .ok (.getfield 28, 3) := by decide +kernel
theorem dX4_reachOfDrain_4 : decode cX4_reachOfDrain 4 = .ok (.bipush 18, 2) := by decide +kernel
theorem dX4_reachOfDrain_6 : decode cX4_reachOfDrain 6 = .ok (.iaload, 1) := by decide +kernel
theorem dX4_reachOfDrain_7 : decode cX4_reachOfDrain 7 = .ok (.aload_n 0, 1) := by decide +kernel
theorem dX4_reachOfDrain_8 : decode cX4_reachOfDrain 8 = .ok (.getfield 34, 3) := by decide +kernel
theorem dX4_reachOfDrain_11 : decode cX4_reachOfDrain 11 = .ok (.bipush 18, 2) := by decide +kernel
theorem dX4_reachOfDrain_13 : decode cX4_reachOfDrain 13 = .ok (.iaload, 1) := by decide +kernel
theorem dX4_reachOfDrain_14 : decode cX4_reachOfDrain 14 = .ok (.if_icmp .ge 8, 3) := by decide +kernel
theorem dX4_reachOfDrain_17 : decode cX4_reachOfDrain 17 = .ok (.ldc 108, 2) := by decide +kernel
theorem dX4_reachOfDrain_19 : decode cX4_reachOfDrain 19 = .ok (.goto 4, 3) := by decide +kernel
theorem dX4_reachOfDrain_22 : decode cX4_reachOfDrain 22 = .ok (.iconst 0, 1) := by decide +kernel
theorem dX4_reachOfDrain_23 : decode cX4_reachOfDrain 23 = .ok (.istore_n 1, 1) := by decide +kernel
theorem dX4_reachOfDrain_24 : decode cX4_reachOfDrain 24 = .ok (.bipush 8, 2) := by decide +kernel
theorem dX4_reachOfDrain_26 : decode cX4_reachOfDrain 26 = .ok (.istore_n 2, 1) := by decide +kernel
theorem dX4_reachOfDrain_27 : decode cX4_reachOfDrain 27 = .ok (.iload_n 2, 1) := by decide +kernel
theorem dX4_reachOfDrain_28 : decode cX4_reachOfDrain 28 = .ok (.bipush 8, 2) := by decide +kernel
theorem dX4_reachOfDrain_30 : decode cX4_reachOfDrain 30 = .ok (.aload_n 0, 1) := by decide +kernel
theorem dX4_reachOfDrain_31 : decode cX4_reachOfDrain 31 = .ok (.getfield 46, 3) := by decide +kernel
theorem dX4_reachOfDrain_34 : decode cX4_reachOfDrain 34 = .ok (.iadd, 1) := by decide +kernel
theorem dX4_reachOfDrain_35 : decode cX4_reachOfDrain 35 = .ok (.if_icmp .ge 30, 3) := by decide +kernel
theorem dX4_reachOfDrain_38 : decode cX4_reachOfDrain 38 = .ok (.aload_n 0, 1) := by decide +kernel
theorem dX4_reachOfDrain_39 : decode cX4_reachOfDrain 39 = .ok (.getfield 28, 3) := by decide +kernel
theorem dX4_reachOfDrain_42 : decode cX4_reachOfDrain 42 = .ok (.iload_n 2, 1) := by decide +kernel
theorem dX4_reachOfDrain_43 : decode cX4_reachOfDrain 43 = .ok (.iaload, 1) := by decide +kernel
theorem dX4_reachOfDrain_44 : decode cX4_reachOfDrain 44 = .ok (.aload_n 0, 1) := by decide +kernel
theorem dX4_reachOfDrain_45 : decode cX4_reachOfDrain 45 = .ok (.getfield 31, 3) := by decide +kernel
theorem dX4_reachOfDrain_48 : decode cX4_reachOfDrain 48 = .ok (.iload_n 2, 1) := by decide +kernel
theorem dX4_reachOfDrain_49 : decode cX4_reachOfDrain 49 = .ok (.iaload, 1) := by decide +kernel
theorem dX4_reachOfDrain_50 : decode cX4_reachOfDrain 50 = .ok (.if_icmp .le 9, 3) := by decide +kernel
theorem dX4_reachOfDrain_53 : decode cX4_reachOfDrain 53 = .ok (.iload_n 1, 1) := by decide +kernel
theorem dX4_reachOfDrain_54 : decode cX4_reachOfDrain 54 = .ok (.iconst 1, 1) := by decide +kernel
theorem dX4_reachOfDrain_55 : decode cX4_reachOfDrain 55 = .ok (.iload_n 2, 1) := by decide +kernel
theorem dX4_reachOfDrain_56 : decode cX4_reachOfDrain 56 = .ok (.ishl, 1) := by decide +kernel
theorem dX4_reachOfDrain_57 : decode cX4_reachOfDrain 57 = .ok (.ior, 1) := by decide +kernel
theorem dX4_reachOfDrain_58 : decode cX4_reachOfDrain 58 = .ok (.istore_n 1, 1) := by decide +kernel
theorem dX4_reachOfDrain_59 : decode cX4_reachOfDrain 59 = .ok (.iinc 2 1, 3) := by decide +kernel
theorem dX4_reachOfDrain_62 : decode cX4_reachOfDrain 62 = .ok (.goto (-35), 3) := by decide +kernel
theorem dX4_reachOfDrain_65 : decode cX4_reachOfDrain 65 = .ok (.iload_n 1, 1) := by decide +kernel
theorem dX4_reachOfDrain_66 : decode cX4_reachOfDrain 66 = .ok (.ireturn, 1) := by decide +kernel
theorem dX4_step_0 : decode cX4_step 0 = .ok (.iload_n 1, 1) := by decide +kernel
theorem dX4_step_1 : decode cX4_step 1 = .ok (.bipush 8, 2) := by decide +kernel
theorem dX4_step_3 : decode cX4_step 3 = .ok (.if_icmp .ge 27, 3) := by decide +kernel
theorem dX4_step_6 : decode cX4_step 6 = .ok (.iload_n 2, 1) := by decide +kernel
theorem dX4_step_7 : decode cX4_step 7 = .ok (.bipush 18, 2) := by decide +kernel
theorem dX4_step_9 : decode cX4_step 9 = .ok (.if_icmp .ge 21, 3) := by decide +kernel
theorem dX4_step_12 : decode cX4_step 12 = .ok (.aload_n 0, 1) := by decide +kernel
theorem dX4_step_13 : decode cX4_step 13 = .ok (.getfield 22, 3) := by decide +kernel
theorem dX4_step_16 : decode cX4_step 16 = .ok (.iload_n 1, 1) := by decide +kernel
theorem dX4_step_17 : decode cX4_step 17 = .ok (.dup2, 1) := by decide +kernel
theorem dX4_step_18 : decode cX4_step 18 = .ok (.iaload, 1) := by decide +kernel
theorem dX4_step_19 : decode cX4_step 19 = .ok (.iconst 1, 1) := by decide +kernel
theorem dX4_step_20 : decode cX4_step 20 = .ok (.iload_n 2, 1) := by decide +kernel
theorem dX4_step_21 : decode cX4_step 21 = .ok (.bipush 8, 2) := by decide +kernel
theorem dX4_step_23 : decode cX4_step 23 = .ok (.isub, 1) := by decide +kernel
theorem dX4_step_24 : decode cX4_step 24 = .ok (.ishl, 1) := by decide +kernel
theorem dX4_step_25 : decode cX4_step 25 = .ok (.ior, 1) := by decide +kernel
theorem dX4_step_26 : decode cX4_step 26 = .ok (.iastore, 1) := by decide +kernel
theorem dX4_step_27 : decode cX4_step 27 = .ok (.goto 114, 3) := by decide +kernel
theorem dX4_step_30 : decode cX4_step 30 = .ok (.iload_n 1, 1) := by decide +kernel
theorem dX4_step_31 : decode cX4_step 31 = .ok (.bipush 18, 2) := by decide +kernel
theorem dX4_step_33 : decode cX4_step 33 = .ok (.if_icmp .ge 29, 3) := by decide +kernel
theorem dX4_step_36 : decode cX4_step 36 = .ok (.iload_n 2, 1) := by decide +kernel
theorem dX4_step_37 : decode cX4_step 37 = .ok (.bipush 8, 2) := by decide +kernel
theorem dX4_step_39 : decode cX4_step 39 = .ok (.if_icmp .ge 23, 3) := by decide +kernel
theorem dX4_step_42 : decode cX4_step 42 = .ok (.aload_n 0, 1) := by decide +kernel
theorem dX4_step_43 : decode cX4_step 43 = .ok (.getfield 22, 3) := by decide +kernel
theorem dX4_step_46 : decode cX4_step 46 = .ok (.iload_n 2, 1) := by decide +kernel
theorem dX4_step_47 : decode cX4_step 47 = .ok (.dup2, 1) := by decide +kernel
theorem dX4_step_48 : decode cX4_step 48 = .ok (.iaload, 1) := by decide +kernel
theorem dX4_step_49 : decode cX4_step 49 = .ok (.iconst 1, 1) := by decide +kernel
theorem dX4_step_50 : decode cX4_step 50 = .ok (.iload_n 1, 1) := by decide +kernel
theorem dX4_step_51 : decode cX4_step 51 = .ok (.bipush 8, 2) := by decide +kernel
theorem dX4_step_53 : decode cX4_step 53 = .ok (.isub, 1) := by decide +kernel
theorem dX4_step_54 : decode cX4_step 54 = .ok (.ishl, 1) := by decide +kernel
theorem dX4_step_55 : decode cX4_step 55 = .ok (.iconst (-1), 1) := by decide +kernel
theorem dX4_step_56 : decode cX4_step 56 = .ok (.ixor, 1) := by decide +kernel
theorem dX4_step_57 : decode cX4_step 57 = .ok (.iand, 1) := by decide +kernel
theorem dX4_step_58 : decode cX4_step 58 = .ok (.iastore, 1) := by decide +kernel
theorem dX4_step_59 : decode cX4_step 59 = .ok (.goto 82, 3) := by decide +kernel
theorem dX4_step_62 : decode cX4_step 62 = .ok (.iload_n 1, 1) := by decide +kernel
theorem dX4_step_63 : decode cX4_step 63 = .ok (.bipush 18, 2) := by decide +kernel
theorem dX4_step_65 : decode cX4_step 65 = .ok (.if_icmp .ge 26, 3) := by decide +kernel
theorem dX4_step_68 : decode cX4_step 68 = .ok (.aload_n 0, 1) := by decide +kernel
theorem dX4_step_69 : decode cX4_step 69 = .ok (.getfield 28, 3) := by decide +kernel
theorem dX4_step_72 : decode cX4_step 72 = .ok (.iload_n 1, 1) := by decide +kernel
theorem dX4_step_73 : decode cX4_step 73 = .ok (.dup2, 1) := by decide +kernel
theorem dX4_step_74 : decode cX4_step 74 = .ok (.iaload, 1) := by decide +kernel
theorem dX4_step_75 : decode cX4_step 75 = .ok (.iload_n 2, 1) := by decide +kernel
theorem dX4_step_76 : decode cX4_step 76 = .ok (.bipush 19, 2) := by decide +kernel
theorem dX4_step_78 : decode cX4_step 78 = .ok (.if_icmp .ne 7, 3) := by decide +kernel
theorem dX4_step_81 : decode cX4_step 81 = .ok (.iconst 1, 1) := by decide +kernel
theorem dX4_step_82 : decode cX4_step 82 = .ok (.goto 4, 3) := by decide +kernel
theorem dX4_step_85 : decode cX4_step 85 = .ok (.iconst (-1), 1) := by decide +kernel
theorem dX4_step_86 : decode cX4_step 86 = .ok (.iadd, 1) := by decide +kernel
theorem dX4_step_87 : decode cX4_step 87 = .ok (.iastore, 1) := by decide +kernel
theorem dX4_step_88 : decode cX4_step 88 = .ok (.goto 53, 3) := by decide +kernel
theorem dX4_step_91 : decode cX4_step 91 = .ok (.iload_n 2, 1) := by decide +kernel
theorem dX4_step_92 : decode cX4_step 92 = .ok (.bipush 18, 2) := by decide +kernel
theorem dX4_step_94 : decode cX4_step 94 = .ok (.if_icmp .ge 26, 3) := by decide +kernel
theorem dX4_step_97 : decode cX4_step 97 = .ok (.aload_n 0, 1) := by decide +kernel
theorem dX4_step_98 : decode cX4_step 98 = .ok (.getfield 28, 3) := by decide +kernel
theorem dX4_step_101 : decode cX4_step 101 = .ok (.iload_n 2, 1) := by decide +kernel
theorem dX4_step_102 : decode cX4_step 102 = .ok (.dup2, 1) := by decide +kernel
theorem dX4_step_103 : decode cX4_step 103 = .ok (.iaload, 1) := by decide +kernel
theorem dX4_step_104 : decode cX4_step 104 = .ok (.iload_n 1, 1) := by decide +kernel
theorem dX4_step_105 : decode cX4_step 105 = .ok (.bipush 18, 2) := by decide +kernel
theorem dX4_step_107 : decode cX4_step 107 = .ok (.if_icmp .ne 7, 3) := by decide +kernel
theorem dX4_step_110 : decode cX4_step 110 = .ok (.iconst 1, 1) := by decide +kernel
theorem dX4_step_111 : decode cX4_step 111 = .ok (.goto 4, 3) := by decide +kernel
theorem dX4_step_114 : decode cX4_step 114 = .ok (.iconst (-1), 1) := by decide +kernel
theorem dX4_step_115 : decode cX4_step 115 = .ok (.iadd, 1) := by decide +kernel
theorem dX4_step_116 : decode cX4_step 116 = .ok (.iastore, 1) := by decide +kernel
theorem dX4_step_117 : decode cX4_step 117 = .ok (.goto 24, 3) := by decide +kernel
theorem dX4_step_120 : decode cX4_step 120 = .ok (.aload_n 0, 1) := by decide +kernel
theorem dX4_step_121 : decode cX4_step 121 = .ok (.getfield 28, 3) := by decide +kernel
theorem dX4_step_124 : decode cX4_step 124 = .ok (.bipush 18, 2) := by decide +kernel
theorem dX4_step_126 : decode cX4_step 126 = .ok (.dup2, 1) := by decide +kernel
theorem dX4_step_127 : decode cX4_step 127 = .ok (.iaload, 1) := by decide +kernel
theorem dX4_step_128 : decode cX4_step 128 = .ok (.iload_n 2, 1) := by decide +kernel
theorem dX4_step_129 : decode cX4_step 129 = .ok (.bipush 18, 2) := by decide +kernel
theorem dX4_step_131 : decode cX4_step 131 = .ok (.if_icmp .ne 7, 3) := by decide +kernel
theorem dX4_step_134 : decode cX4_step 134 = .ok (.iconst 1, 1) := by decide +kernel
theorem dX4_step_135 : decode cX4_step 135 = .ok (.goto 4, 3) := by decide +kernel
theorem dX4_step_138 : decode cX4_step 138 = .ok (.iconst (-1), 1) := by decide +kernel
theorem dX4_step_139 : decode cX4_step 139 = .ok (.iadd, 1) := by decide +kernel
theorem dX4_step_140 : decode cX4_step 140 = .ok (.iastore, 1) := by decide +kernel
theorem dX4_step_141 : decode cX4_step 141 = .ok (.return_, 1) := by decide +kernel
theorem dX5_init_0 : decode cX5_init 0 = .ok (.aload_n 0, 1) := by decide +kernel
theorem dX5_init_1 : decode cX5_init 1 = .ok (.invokespecial 1, 3) := by decide +kernel
theorem dX5_init_4 : decode cX5_init 4 = .ok (.aload_n 0, 1) := by decide +kernel
theorem dX5_init_5 : decode cX5_init 5 = .ok (.ldc 7, 2) := by decide +kernel
theorem dX5_init_7 : decode cX5_init 7 = .ok (.invokestatic 9, 3) := by decide +kernel
theorem dX5_init_10 : decode cX5_init 10 = .ok (.putfield 15, 3) := by decide +kernel
theorem dX5_init_13 : decode cX5_init 13 = .ok (.aload_n 0, 1) := by decide +kernel
theorem dX5_init_14 : decode cX5_init 14 = .ok (.ldc 19, 2) := by decide +kernel
theorem dX5_init_16 : decode cX5_init 16 = .ok (.invokestatic 9, 3) := by decide +kernel
theorem dX5_init_19 : decode cX5_init 19 = .ok (.putfield 21, 3) := by decide +kernel
theorem dX5_init_22 : decode cX5_init 22 = .ok (.aload_n 0, 1) := by decide +kernel
theorem dX5_init_23 : decode cX5_init 23 = .ok (.ldc 24, 2) := by decide +kernel
theorem dX5_init_25 : decode cX5_init 25 = .ok (.invokestatic 9, 3) := by decide +kernel
theorem dX5_init_28 : decode cX5_init 28 = .ok (.putfield 26, 3) := by decide +kernel
theorem dX5_init_31 : decode cX5_init 31 = .ok (.aload_n 0, 1) := by decide +kernel
theorem dX5_init_32 : decode cX5_init 32 = .ok (.ldc 29, 2) := by decide +kernel
theorem dX5_init_34 : decode cX5_init 34 = .ok (.invokestatic 9, 3) := by decide +kernel
theorem dX5_init_37 : decode cX5_init 37 = .ok (.putfield 31, 3) := by decide +kernel
theorem dX5_init_40 : decode cX5_init 40 = .ok (.aload_n 0, 1) := by decide +kernel
theorem dX5_init_41 : decode cX5_init 41 = .ok (.ldc 34, 2) := by decide +kernel
theorem dX5_init_43 : decode cX5_init 43 = .ok (.invokestatic 9, 3) := by decide +kernel
theorem dX5_init_46 : decode cX5_init 46 = .ok (.putfield 36, 3) := by decide +kernel
theorem dX5_init_49 : decode cX5_init 49 = .ok (.aload_n 0, 1) := by decide +kernel
theorem dX5_init_50 : decode cX5_init 50 = .ok (.ldc 39, 2) := by decide +kernel
theorem dX5_init_52 : decode cX5_init 52 = .ok (.invokestatic 9, 3) := by decide +kernel
theorem dX5_init_55 : decode cX5_init 55 = .ok (.putfield 41, 3) := by decide +kernel
theorem dX5_init_58 : decode cX5_init 58 = .ok (.aload_n 0, 1) := by decide +kernel
theorem dX5_init_59 : decode cX5_init 59 = .ok (.ldc 44, 2) := by decide +kernel
theorem dX5_init_61 : decode cX5_init 61 = .ok (.invokestatic 9, 3) := by decide +kernel
theorem dX5_init_64 : decode cX5_init 64 = .ok (.putfield 46, 3) := by decide +kernel
theorem dX5_init_67 : decode cX5_init 67 = .ok (.aload_n 0, 1) := by decide +kernel
theorem dX5_init_68 : decode cX5_init 68 = .ok (.iconst 0, 1) := by decide +kernel
theorem dX5_init_69 : decode cX5_init 69 = .ok (.newarray .byte, 2) := by decide +kernel
theorem dX5_init_71 : decode cX5_init 71 = .ok (.putfield 49, 3) := by decide +kernel
theorem dX5_init_74 : decode cX5_init 74 = .ok (.aload_n 0, 1) := by decide +kernel
theorem dX5_init_75 : decode cX5_init 75 = .ok (.iconst 0, 1) := by decide +kernel
theorem dX5_init_76 : decode cX5_init 76 = .ok (.putfield 53, 3) := by decide +kernel
theorem dX5_init_79 : decode cX5_init 79 = .ok (.aload_n 0, 1) := by decide +kernel
theorem dX5_init_80 : decode cX5_init 80 = .ok (.iconst 0, 1) := by decide +kernel
theorem dX5_init_81 : decode cX5_init 81 = .ok (.putfield 57, 3) := by decide +kernel
theorem dX5_init_84 : decode cX5_init 84 = .ok (.aload_n 0, 1) := by decide +kernel
theorem dX5_init_85 : decode cX5_init 85 = .ok (.iconst 0, 1) := by decide +kernel
theorem dX5_init_86 : decode cX5_init 86 = .ok (.putfield 60, 3) := by decide +kernel
theorem dX5_init_89 : decode cX5_init 89 = .ok (.aload_n 0, 1) := by decide +kernel
theorem dX5_init_90 : decode cX5_init 90 = .ok (.iconst 0, 1) := by decide +kernel
theorem dX5_init_91 : decode cX5_init 91 = .ok (.putfield 63, 3) := by decide +kernel
theorem dX5_init_94 : decode cX5_init 94 = .ok (.aload_n 0, 1) := by decide +kernel
theorem dX5_init_95 : decode cX5_init 95 = .ok (.lconst 0, 1) := by decide +kernel
theorem dX5_init_96 : decode cX5_init 96 = .ok (.putfield 66, 3) := by decide +kernel
theorem dX5_init_99 : decode cX5_init 99 = .ok (.aload_n 0, 1) := by decide +kernel
theorem dX5_init_100 : decode cX5_init 100 = .ok (.iconst 0, 1) := by decide +kernel
theorem dX5_init_101 : decode cX5_init 101 = .ok (.putfield 69, 3) := by decide +kernel
theorem dX5_init_104 : decode cX5_init 104 = .ok (.return_, 1) := by decide +kernel
theorem dX5_open_0 : decode cX5_open 0 = .ok (.aload_n 0, 1) := by decide +kernel
theorem dX5_open_1 : decode cX5_open 1 = .ok (.aload_n 1, 1) := by decide +kernel
theorem dX5_open_2 : decode cX5_open 2 = .ok (.putfield 49, 3) := by decide +kernel
theorem dX5_open_5 : decode cX5_open 5 = .ok (.aload_n 0, 1) := by decide +kernel
theorem dX5_open_6 : decode cX5_open 6 = .ok (.iload_n 2, 1) := by decide +kernel
theorem dX5_open_7 : decode cX5_open 7 = .ok (.aload_n 1, 1) := by decide +kernel
theorem dX5_open_8 : decode cX5_open 8 = .ok (.arraylength, 1) := by decide +kernel
theorem dX5_open_9 : decode cX5_open 9 = .ok (.invokestatic 72, 3) := by decide +kernel
theorem dX5_open_12 : decode cX5_open 12 = .ok (.putfield 53, 3) := by decide +kernel
theorem dX5_open_15 : decode cX5_open 15 = .ok (.aload_n 0, 1) := by decide +kernel
theorem dX5_open_16 : decode cX5_open 16 = .ok (.iconst 0, 1) := by decide +kernel
theorem dX5_open_17 : decode cX5_open 17 = .ok (.putfield 57, 3) := by decide +kernel
theorem dX5_open_20 : decode cX5_open 20 = .ok (.return_, 1) := by decide +kernel
theorem dX5_next_0 : decode cX5_next 0 = .ok (.aload_n 0, 1) := by decide +kernel
theorem dX5_next_1 : decode cX5_next 1 = .ok (.getfield 57, 3) := by decide +kernel
theorem dX5_next_4 : decode cX5_next 4 = .ok (.aload_n 0, 1) := by decide +kernel
theorem dX5_next_5 : decode cX5_next 5 = .ok (.getfield 53, 3) := by decide +kernel
theorem dX5_next_8 : decode cX5_next 8 = .ok (.if_icmp .ge 44, 3) := by decide +kernel
theorem dX5_next_11 : decode cX5_next 11 = .ok (.aload_n 0, 1) := by decide +kernel
theorem dX5_next_12 : decode cX5_next 12 = .ok (.getfield 49, 3) := by decide +kernel
theorem dX5_next_15 : decode cX5_next 15 = .ok (.aload_n 0, 1) := by decide +kernel
theorem dX5_next_16 : decode cX5_next 16 = .ok (.getfield 57, 3) := by decide +kernel
theorem dX5_next_19 : decode cX5_next 19 = .ok (.baload, 1) := by decide +kernel
theorem dX5_next_20 : decode cX5_next 20 = .ok (.bipush 32, 2) := by decide +kernel
theorem dX5_next_22 : decode cX5_next 22 = .ok (.if_icmp .eq 17, 3) := by decide +kernel
theorem dX5_next_25 : decode cX5_next 25 = .ok (.aload_n 0, 1) := by decide +kernel
theorem dX5_next_26 : decode cX5_next 26 = .ok (.getfield 49, 3) := by decide +kernel
theorem dX5_next_29 : decode cX5_next 29 = .ok (.aload_n 0, 1) := by decide +kernel
theorem dX5_next_30 : decode cX5_next 30 = .ok (.getfield 57, 3) := by decide +kernel
theorem dX5_next_33 : decode cX5_next 33 = .ok (.baload, 1) := by decide +kernel
theorem dX5_next_34 : decode cX5_next 34 = .ok (.bipush 10, 2) := by decide +kernel
theorem dX5_next_36 : decode cX5_next 36 = .ok (.if_icmp .ne 16, 3) := by decide +kernel
theorem dX5_next_39 : decode cX5_next 39 = .ok (.aload_n 0, 1) := by decide +kernel
theorem dX5_next_40 : decode cX5_next 40 = .ok (.dup, 1) := by decide +kernel
theorem dX5_next_41 : decode cX5_next 41 = .ok (.getfield 57, 3) := by decide +kernel
theorem dX5_next_44 : decode cX5_next 44 = .ok (.iconst 1, 1) := by decide +kernel
theorem dX5_next_45 : decode cX5_next 45 = .ok (.iadd, 1) := by decide +kernel
theorem dX5_next_46 : decode cX5_next 46 = .ok (.putfield 57, 3) := by decide +kernel
theorem dX5_next_49 : decode cX5_next 49 = .ok (.goto (-49), 3) := by decide +kernel
theorem dX5_next_52 : decode cX5_next 52 = .ok (.aload_n 0, 1) := by decide +kernel
theorem dX5_next_53 : decode cX5_next 53 = .ok (.aload_n 0, 1) := by decide +kernel
theorem dX5_next_54 : decode cX5_next 54 = .ok (.getfield 57, 3) := by decide +kernel
theorem dX5_next_57 : decode cX5_next 57 = .ok (.putfield 63, 3) := by decide +kernel
theorem dX5_next_60 : decode cX5_next 60 = .ok (.aload_n 0, 1) := by decide +kernel
theorem dX5_next_61 : decode cX5_next 61 = .ok (.getfield 57, 3) := by decide +kernel
theorem dX5_next_64 : decode cX5_next 64 = .ok (.aload_n 0, 1) := by decide +kernel
theorem dX5_next_65 : decode cX5_next 65 = .ok (.getfield 53, 3) := by decide +kernel
theorem dX5_next_68 : decode cX5_next 68 = .ok (.if_icmp .lt 11, 3) := by decide +kernel
theorem dX5_next_71 : decode cX5_next 71 = .ok (.aload_n 0, 1) := by decide +kernel
theorem dX5_next_72 : decode cX5_next 72 = .ok (.iconst 0, 1) := by decide +kernel
theorem dX5_next_73 : decode cX5_next 73 = .ok (.putfield 60, 3) := by decide +kernel
theorem dX5_next_76 : decode cX5_next 76 = .ok (.goto 80, 3) := by decide +kernel
theorem dX5_next_79 : decode cX5_next 79 = .ok (.aload_n 0, 1) := by decide +kernel
theorem dX5_next_80 : decode cX5_next 80 = .ok (.getfield 49, 3) := by decide +kernel
theorem dX5_next_83 : decode cX5_next 83 = .ok (.aload_n 0, 1) := by decide +kernel
theorem dX5_next_84 : decode cX5_next 84 = .ok (.getfield 57, 3) := by decide +kernel
theorem dX5_next_87 : decode cX5_next 87 = .ok (.baload, 1) := by decide +kernel
theorem dX5_next_88 : decode cX5_next 88 = .ok (.invokestatic 78, 3) := by decide +kernel
theorem dX5_next_91 : decode cX5_next 91 = .ok (.ifCond .eq 10, 3) := by decide +kernel
theorem dX5_next_94 : decode cX5_next 94 = .ok (.aload_n 0, 1) := by decide +kernel
theorem dX5_next_95 : decode cX5_next 95 = .ok (.invokevirtual 82, 3) := by decide +kernel
theorem dX5_next_98 : decode cX5_next 98 = .ok (.goto 58, 3) := by decide +kernel
theorem dX5_next_101 : decode cX5_next 101 = .ok (.aload_n 0, 1) := by decide +kernel
theorem dX5_next_102 : decode cX5_next 102 = .ok (.getfield 49, 3) := by decide +kernel
theorem dX5_next_105 : decode cX5_next 105 = .ok (.aload_n 0, 1) := by decide +kernel
theorem dX5_next_106 : decode cX5_next 106 = .ok (.getfield 57, 3) := by decide +kernel
theorem dX5_next_109 : decode cX5_next 109 = .ok (.baload, 1) := by decide +kernel
theorem dX5_next_110 : decode cX5_next 110 = .ok (.invokestatic 85, 3) := by decide +kernel
theorem dX5_next_113 : decode cX5_next 113 = .ok (.ifCond .eq 10, 3) := by decide +kernel
theorem dX5_next_116 : decode cX5_next 116 = .ok (.aload_n 0, 1) := by decide +kernel
theorem dX5_next_117 : decode cX5_next 117 = .ok (.invokevirtual 88, 3) := by decide +kernel
theorem dX5_next_120 : decode cX5_next 120 = .ok (.goto 36, 3) := by decide +kernel
theorem dX5_next_123 : decode cX5_next 123 = .ok (.aload_n 0, 1) := by decide +kernel
theorem dX5_next_124 : decode cX5_next 124 = .ok (.aload_n 0, 1) := by decide +kernel
theorem dX5_next_125 : decode cX5_next 125 = .ok (.getfield 49, 3) := by decide +kernel
theorem dX5_next_128 : decode cX5_next 128 = .ok (.aload_n 0, 1) := by decide +kernel
theorem dX5_next_129 : decode cX5_next 129 = .ok (.getfield 57, 3) := by decide +kernel
theorem dX5_next_132 : decode cX5_next 132 = .ok (.baload, 1) := by decide +kernel
theorem dX5_next_133 : decode cX5_next 133 = .ok (.bipush 59, 2) := by decide +kernel
theorem dX5_next_135 : decode cX5_next 135 = .ok (.if_icmp .ne 7, 3) := by decide +kernel
theorem dX5_next_138 : decode cX5_next 138 = .ok (.iconst 3, 1) := by decide +kernel
theorem dX5_next_139 : decode cX5_next 139 = .ok (.goto 4, 3) := by decide +kernel
theorem dX5_next_142 : decode cX5_next 142 = .ok (.iconst 1, 1) := by decide +kernel
theorem dX5_next_143 : decode cX5_next 143 = .ok (.putfield 60, 3) := by decide +kernel
theorem dX5_next_146 : decode cX5_next 146 = .ok (.aload_n 0, 1) := by decide +kernel
theorem dX5_next_147 : decode cX5_next 147 = .ok (.dup, 1) := by decide +kernel
theorem dX5_next_148 : decode cX5_next 148 = .ok (.getfield 57, 3) := by decide +kernel
theorem dX5_next_151 : decode cX5_next 151 = .ok (.iconst 1, 1) := by decide +kernel
theorem dX5_next_152 : decode cX5_next 152 = .ok (.iadd, 1) := by decide +kernel
theorem dX5_next_153 : decode cX5_next 153 = .ok (.putfield 57, 3) := by decide +kernel
theorem dX5_next_156 : decode cX5_next 156 = .ok (.return_, 1) := by decide +kernel
theorem dX5_readWord_0 : decode cX5_readWord 0 = .ok (.aload_n 0, 1) := by decide +kernel
theorem dX5_readWord_1 : decode cX5_readWord 1 = .ok (.lconst 0, 1) := by decide +kernel
theorem dX5_readWord_2 : decode cX5_readWord 2 = .ok (.putfield 66, 3) := by decide +kernel
theorem dX5_readWord_5 : decode cX5_readWord 5 = .ok (.aload_n 0, 1) := by decide +kernel
theorem dX5_readWord_6 : decode cX5_readWord 6 = .ok (.getfield 57, 3) := by decide +kernel
theorem dX5_readWord_9 : decode cX5_readWord 9 = .ok (.aload_n 0, 1) := by decide +kernel
theorem dX5_readWord_10 : decode cX5_readWord 10 = .ok (.getfield 53, 3) := by decide +kernel
theorem dX5_readWord_13 : decode cX5_readWord 13 = .ok (.if_icmp .ge 57, 3) := by decide +kernel
theorem dX5_readWord_16 : decode cX5_readWord 16 = .ok (.aload_n 0, 1) := by decide +kernel
theorem dX5_readWord_17 : decode cX5_readWord 17 = .ok (.getfield 49, 3) := by decide +kernel
theorem dX5_readWord_20 : decode cX5_readWord 20 = .ok (.aload_n 0, 1) := by decide +kernel
theorem dX5_readWord_21 : decode cX5_readWord 21 = .ok (.getfield 57, 3) := by decide +kernel
theorem dX5_readWord_24 : decode cX5_readWord 24 = .ok (.baload, 1) := by decide +kernel
theorem dX5_readWord_25 : decode cX5_readWord 25 = .ok (.invokestatic 78, 3) := by decide +kernel
theorem dX5_readWord_28 : decode cX5_readWord 28 = .ok (.ifCond .eq 42, 3) := by decide +kernel
theorem dX5_readWord_31 : decode cX5_readWord 31 = .ok (.aload_n 0, 1) := by decide +kernel
theorem dX5_readWord_32 : decode cX5_readWord 32 = .ok (.aload_n 0, 1) := by decide +kernel
theorem dX5_readWord_33 : decode cX5_readWord 33 = .ok (.getfield 66, 3) := by decide +kernel
theorem dX5_readWord_36 : decode cX5_readWord 36 = .ok (.iconst 5, 1) := by decide +kernel
theorem dX5_readWord_37 : decode cX5_readWord 37 = .ok (.lshl, 1) := by decide +kernel
theorem dX5_readWord_38 : decode cX5_readWord 38 = .ok (.aload_n 0, 1) := by decide +kernel
theorem dX5_readWord_39 : decode cX5_readWord 39 = .ok (.getfield 49, 3) := by decide +kernel
theorem dX5_readWord_42 : decode cX5_readWord 42 = .ok (.aload_n 0, 1) := by decide +kernel
theorem dX5_readWord_43 : decode cX5_readWord 43 = .ok (.getfield 57, 3) := by decide +kernel
theorem dX5_readWord_46 : decode cX5_readWord 46 = .ok (.baload, 1) := by decide +kernel
theorem dX5_readWord_47 : decode cX5_readWord 47 = .ok (.bipush 97, 2) := by decide +kernel
theorem dX5_readWord_49 : decode cX5_readWord 49 = .ok (.isub, 1) := by decide +kernel
theorem dX5_readWord_50 : decode cX5_readWord 50 = .ok (.iconst 1, 1) := by decide +kernel
theorem dX5_readWord_51 : decode cX5_readWord 51 = .ok (.iadd, 1) := by decide +kernel
theorem dX5_readWord_52 : decode cX5_readWord 52 = .ok (.i2l, 1) := by decide +kernel
theorem dX5_readWord_53 : decode cX5_readWord 53 = .ok (.lor, 1) := by decide +kernel
theorem dX5_readWord_54 : decode cX5_readWord 54 = .ok (.putfield 66, 3) := by decide +kernel
theorem dX5_readWord_57 : decode cX5_readWord 57 = .ok (.aload_n 0, 1) := by decide +kernel
theorem dX5_readWord_58 : decode cX5_readWord 58 = .ok (.dup, 1) := by decide +kernel
theorem dX5_readWord_59 : decode cX5_readWord 59 = .ok (.getfield 57, 3) := by decide +kernel
theorem dX5_readWord_62 : decode cX5_readWord 62 = .ok (.iconst 1, 1) := by decide +kernel
theorem dX5_readWord_63 : decode cX5_readWord 63 = .ok (.iadd, 1) := by decide +kernel
theorem dX5_readWord_64 : decode cX5_readWord 64 = .ok (.putfield 57, 3) := by decide +kernel
theorem dX5_readWord_67 : decode cX5_readWord 67 = .ok (.goto (-62), 3) := by decide +kernel
theorem dX5_readWord_70 : decode cX5_readWord 70 = .ok (.aload_n 0, 1) := by decide +kernel
theorem dX5_readWord_71 : decode cX5_readWord 71 = .ok (.aload_n 0, 1) := by decide +kernel
theorem dX5_readWord_72 : decode cX5_readWord 72 = .ok (.getfield 57, 3) := by decide +kernel
theorem dX5_readWord_75 : decode cX5_readWord 75 = .ok (.aload_n 0, 1) := by decide +kernel
theorem dX5_readWord_76 : decode cX5_readWord 76 = .ok (.getfield 63, 3) := by decide +kernel
theorem dX5_readWord_79 : decode cX5_readWord 79 = .ok (.isub, 1) := by decide +kernel
theorem dX5_readWord_80 : decode cX5_readWord 80 = .ok (.bipush 8, 2) := by decide +kernel
theorem dX5_readWord_82 : decode cX5_readWord 82 = .ok (.if_icmp .le 7, 3) := by decide +kernel
theorem dX5_readWord_85 : decode cX5_readWord 85 = .ok (.iconst 1, 1) := by decide +kernel
theorem dX5_readWord_86 : decode cX5_readWord 86 = .ok (.goto 7, 3) := by decide +kernel
theorem dX5_readWord_89 : decode cX5_readWord 89 = .ok (.aload_n 0, 1) := by decide +kernel
theorem dX5_readWord_90 : decode cX5_readWord 90 = .ok (.invokevirtual 91, 3) := by decide +kernel
theorem dX5_readWord_93 : decode cX5_readWord 93 = .ok (.putfield 60, 3) := by decide +kernel
theorem dX5_readWord_96 : decode cX5_readWord 96 = .ok (.return_, 1) := by decide +kernel
theorem dX5_readNumber_0 : decode cX5_readNumber 0 = .ok (.aload_n 0, 1) := by decide +kernel
theorem dX5_readNumber_1 : decode cX5_readNumber 1 = .ok (.iconst 0, 1) := by decide +kernel
theorem dX5_readNumber_2 : decode cX5_readNumber 2 = .ok (.putfield 69, 3) := by decide +kernel
theorem dX5_readNumber_5 : decode cX5_readNumber 5 = .ok (.aload_n 0, 1) := by decide +kernel
theorem dX5_readNumber_6 : decode cX5_readNumber 6 = .ok (.getfield 57, 3) := by decide +kernel
theorem dX5_readNumber_9 : decode cX5_readNumber 9 = .ok (.aload_n 0, 1) := by decide +kernel
theorem dX5_readNumber_10 : decode cX5_readNumber 10 = .ok (.getfield 53, 3) := by decide +kernel
theorem dX5_readNumber_13 : decode cX5_readNumber 13 = .ok (.if_icmp .ge 55, 3) := by decide +kernel
theorem dX5_readNumber_16 : decode cX5_readNumber 16 = .ok (.aload_n 0, 1) := by decide +kernel
theorem dX5_readNumber_17 : decode cX5_readNumber 17 = .ok (.getfield 49, 3) := by decide +kernel
theorem dX5_readNumber_20 : decode cX5_readNumber 20 = .ok (.aload_n 0, 1) := by decide +kernel
theorem dX5_readNumber_21 : decode cX5_readNumber 21 = .ok (.getfield 57, 3) := by decide +kernel
theorem dX5_readNumber_24 : decode cX5_readNumber 24 = .ok (.baload, 1) := by decide +kernel
theorem dX5_readNumber_25 : decode cX5_readNumber 25 = .ok (.invokestatic 85, 3) := by decide +kernel
theorem dX5_readNumber_28 : decode cX5_readNumber 28 = .ok (.ifCond .eq 40, 3) := by decide +kernel
theorem dX5_readNumber_31 : decode cX5_readNumber 31 = .ok (.aload_n 0, 1) := by decide +kernel
theorem dX5_readNumber_32 : decode cX5_readNumber 32 = .ok (.aload_n 0, 1) := by decide +kernel
theorem dX5_readNumber_33 : decode cX5_readNumber 33 = .ok (.getfield 69, 3) := by decide +kernel
theorem dX5_readNumber_36 : decode cX5_readNumber 36 = .ok (.bipush 10, 2) := by decide +kernel
theorem dX5_readNumber_38 : decode cX5_readNumber 38 = .ok (.imul, 1) := by decide +kernel
theorem dX5_readNumber_39 : decode cX5_readNumber 39 = .ok (.aload_n 0, 1) := by decide +kernel
theorem dX5_readNumber_40 : decode cX5_readNumber 40 = .ok (.getfield 49, 3) := by decide +kernel
theorem dX5_readNumber_43 : decode cX5_readNumber 43 = .ok (.aload_n 0, 1) := by decide +kernel
theorem dX5_readNumber_44 : decode cX5_readNumber 44 = .ok (.getfield 57, 3) := by decide +kernel
theorem dX5_readNumber_47 : decode cX5_readNumber 47 = .ok (.baload, 1) := by decide +kernel
theorem dX5_readNumber_48 : decode cX5_readNumber 48 = .ok (.iadd, 1) := by decide +kernel
theorem dX5_readNumber_49 : decode cX5_readNumber 49 = .ok (.bipush 48, 2) := by decide +kernel
theorem dX5_readNumber_51 : decode cX5_readNumber 51 = .ok (.isub, 1) := by decide +kernel
theorem dX5_readNumber_52 : decode cX5_readNumber 52 = .ok (.putfield 69, 3) := by decide +kernel
theorem dX5_readNumber_55 : decode cX5_readNumber 55 = .ok (.aload_n 0, 1) := by decide +kernel
theorem dX5_readNumber_56 : decode cX5_readNumber 56 = .ok (.dup, 1) := by decide +kernel
theorem dX5_readNumber_57 : decode cX5_readNumber 57 = .ok (.getfield 57, 3) := by decide +kernel
theorem dX5_readNumber_60 : decode cX5_readNumber 60 = .ok (.iconst 1, 1) := by decide +kernel
theorem dX5_readNumber_61 : decode cX5_readNumber 61 = .ok (.iadd, 1) := by decide +kernel
theorem dX5_readNumber_62 : decode cX5_readNumber 62 = .ok (.putfield 57, 3) := by decide +kernel
theorem dX5_readNumber_65 : decode cX5_readNumber 65 = .ok (.goto (-60), 3) := by decide +kernel
theorem dX5_readNumber_68 : decode cX5_readNumber 68 = .ok (.aload_n 0, 1) := by decide +kernel
theorem dX5_readNumber_69 : decode cX5_readNumber 69 = .ok (.getfield 57, 3) := by decide +kernel
theorem dX5_readNumber_72 : decode cX5_readNumber 72 = .ok (.aload_n 0, 1) := by decide +kernel
theorem dX5_readNumber_73 : decode cX5_readNumber 73 = .ok (.getfield 53, 3) := by decide +kernel
theorem dX5_readNumber_76 : decode cX5_readNumber 76 = .ok (.if_icmp .ge 22, 3) := by decide +kernel
theorem dX5_readNumber_79 : decode cX5_readNumber 79 = .ok (.aload_n 0, 1) := by decide +kernel
theorem dX5_readNumber_80 : decode cX5_readNumber 80 = .ok (.getfield 49, 3) := by decide +kernel
theorem dX5_readNumber_83 : decode cX5_readNumber 83 = .ok (.aload_n 0, 1) := by decide +kernel
theorem dX5_readNumber_84 : decode cX5_readNumber 84 = .ok (.getfield 57, 3) := by decide +kernel
theorem dX5_readNumber_87 : decode cX5_readNumber 87 = .ok (.baload, 1) := by decide +kernel
theorem dX5_readNumber_88 : decode cX5_readNumber 88 = .ok (.invokestatic 78, 3) := by decide +kernel
theorem dX5_readNumber_91 : decode cX5_readNumber 91 = .ok (.ifCond .eq 7, 3) := by decide +kernel
theorem dX5_readNumber_94 : decode cX5_readNumber 94 = .ok (.iconst 1, 1) := by decide +kernel
theorem dX5_readNumber_95 : decode cX5_readNumber 95 = .ok (.goto 4, 3) := by decide +kernel
theorem dX5_readNumber_98 : decode cX5_readNumber 98 = .ok (.iconst 0, 1) := by decide +kernel
theorem dX5_readNumber_99 : decode cX5_readNumber 99 = .ok (.istore_n 1, 1) := by decide +kernel
theorem dX5_readNumber_100 : decode cX5_readNumber 100 = .ok (.aload_n 0, 1) := by decide +kernel
theorem dX5_readNumber_101 : decode cX5_readNumber 101 = .ok (.iload_n 1, 1) := by decide +kernel
theorem dX5_readNumber_102 : decode cX5_readNumber 102 = .ok (.ifCond .ne 16, 3) := by decide +kernel
theorem dX5_readNumber_105 : decode cX5_readNumber 105 = .ok (.aload_n 0, 1) := by decide +kernel
theorem dX5_readNumber_106 : decode cX5_readNumber 106 = .ok (.getfield 57, 3) := by decide +kernel
theorem dX5_readNumber_109 : decode cX5_readNumber 109 = .ok (.aload_n 0, 1) := by decide +kernel
theorem dX5_readNumber_110 : decode cX5_readNumber 110 = .ok (.getfield 63, 3) := by decide +kernel
theorem dX5_readNumber_113 : decode cX5_readNumber 113 = .ok (.isub, 1) := by decide +kernel
theorem dX5_readNumber_114 : decode cX5_readNumber 114 = .ok (.iconst 4, 1) := by decide +kernel
theorem dX5_readNumber_115 : decode cX5_readNumber 115 = .ok (.if_icmp .le 7, 3) := by decide +kernel
theorem dX5_readNumber_118 : decode cX5_readNumber 118 = .ok (.iconst 1, 1) := by decide +kernel
theorem dX5_readNumber_119 : decode cX5_readNumber 119 = .ok (.goto 4, 3) := by decide +kernel
theorem dX5_readNumber_122 : decode cX5_readNumber 122 = .ok (.iconst 2, 1) := by decide +kernel
theorem dX5_readNumber_123 : decode cX5_readNumber 123 = .ok (.putfield 60, 3) := by decide +kernel
theorem dX5_readNumber_126 : decode cX5_readNumber 126 = .ok (.return_, 1) := by decide +kernel
theorem dX5_kindOfWord_0 : decode cX5_kindOfWord 0 = .ok (.aload_n 0, 1) := by decide +kernel
theorem dX5_kindOfWord_1 : decode cX5_kindOfWord 1 = .ok (.getfield 66, 3) := by decide +kernel
theorem dX5_kindOfWord_4 : decode cX5_kindOfWord 4 = .ok (.aload_n 0, 1) := by decide +kernel
theorem dX5_kindOfWord_5 : decode cX5_kindOfWord 5 = .ok (.getfield 15, 3) := by decide +kernel
theorem dX5_kindOfWord_8 : decode cX5_kindOfWord 8 = .ok (.lcmp, 1) := by decide +kernel
theorem dX5_kindOfWord_9 : decode cX5_kindOfWord 9 = .ok (.ifCond .ne 5, 3) := by decide +kernel
theorem dX5_kindOfWord_12 : decode cX5_kindOfWord 12 = .ok (.iconst 5, 1) := by decide +kernel
theorem dX5_kindOfWord_13 : decode cX5_kindOfWord 13 = .ok (.ireturn, 1) := by decide +kernel
theorem dX5_kindOfWord_14 : decode cX5_kindOfWord 14 = .ok (.aload_n 0, 1) := by decide +kernel
theorem dX5_kindOfWord_15 : decode cX5_kindOfWord 15 = .ok (.getfield 66, 3) := by decide +kernel
theorem dX5_kindOfWord_18 : decode cX5_kindOfWord 18 = .ok (.aload_n 0, 1) := by decide +kernel
theorem dX5_kindOfWord_19 : decode cX5_kindOfWord 19 = .ok (.getfield 21, 3) := by decide +kernel
theorem dX5_kindOfWord_22 : decode cX5_kindOfWord 22 = .ok (.lcmp, 1) := by decide +kernel
theorem dX5_kindOfWord_23 : decode cX5_kindOfWord 23 = .ok (.ifCond .ne 6, 3) := by decide +kernel
theorem dX5_kindOfWord_26 : decode cX5_kindOfWord 26 = .ok (.bipush 6, 2) := by decide +kernel
theorem dX5_kindOfWord_28 : decode cX5_kindOfWord 28 = .ok (.ireturn, 1) := by decide +kernel
theorem dX5_kindOfWord_29 : decode cX5_kindOfWord 29 = .ok (.aload_n 0, 1) := by decide +kernel
theorem dX5_kindOfWord_30 : decode cX5_kindOfWord 30 = .ok (.getfield 66, 3) := by decide +kernel
theorem dX5_kindOfWord_33 : decode cX5_kindOfWord 33 = .ok (.aload_n 0, 1) := by decide +kernel
theorem dX5_kindOfWord_34 : decode cX5_kindOfWord 34 = .ok (.getfield 26, 3) := by decide +kernel
theorem dX5_kindOfWord_37 : decode cX5_kindOfWord 37 = .ok (.lcmp, 1) := by decide +kernel
theorem dX5_kindOfWord_38 : decode cX5_kindOfWord 38 = .ok (.ifCond .ne 6, 3) := by decide +kernel
theorem dX5_kindOfWord_41 : decode cX5_kindOfWord 41 = .ok (.bipush 7, 2) := by decide +kernel
theorem dX5_kindOfWord_43 : decode cX5_kindOfWord 43 = .ok (.ireturn, 1) := by decide +kernel
theorem dX5_kindOfWord_44 : decode cX5_kindOfWord 44 = .ok (.aload_n 0, 1) := by decide +kernel
theorem dX5_kindOfWord_45 : decode cX5_kindOfWord 45 = .ok (.getfield 66, 3) := by decide +kernel
theorem dX5_kindOfWord_48 : decode cX5_kindOfWord 48 = .ok (.aload_n 0, 1) := by decide +kernel
theorem dX5_kindOfWord_49 : decode cX5_kindOfWord 49 = .ok (.getfield 31, 3) := by decide +kernel
theorem dX5_kindOfWord_52 : decode cX5_kindOfWord 52 = .ok (.lcmp, 1) := by decide +kernel
theorem dX5_kindOfWord_53 : decode cX5_kindOfWord 53 = .ok (.ifCond .ne 6, 3) := by decide +kernel
theorem dX5_kindOfWord_56 : decode cX5_kindOfWord 56 = .ok (.bipush 8, 2) := by decide +kernel
theorem dX5_kindOfWord_58 : decode cX5_kindOfWord 58 = .ok (.ireturn, 1) := by decide +kernel
theorem dX5_kindOfWord_59 : decode cX5_kindOfWord 59 = .ok (.aload_n 0, 1) := by decide +kernel
theorem dX5_kindOfWord_60 : decode cX5_kindOfWord 60 = .ok (.getfield 66, 3) := by decide +kernel
theorem dX5_kindOfWord_63 : decode cX5_kindOfWord 63 = .ok (.aload_n 0, 1) := by decide +kernel
theorem dX5_kindOfWord_64 : decode cX5_kindOfWord 64 = .ok (.getfield 36, 3) := by decide +kernel
theorem dX5_kindOfWord_67 : decode cX5_kindOfWord 67 = .ok (.lcmp, 1) := by decide +kernel
theorem dX5_kindOfWord_68 : decode cX5_kindOfWord 68 = .ok (.ifCond .ne 6, 3) := by decide +kernel
theorem dX5_kindOfWord_71 : decode cX5_kindOfWord 71 = .ok (.bipush 9, 2) := by decide +kernel
theorem dX5_kindOfWord_73 : decode cX5_kindOfWord 73 = .ok (.ireturn, 1) := by decide +kernel
theorem dX5_kindOfWord_74 : decode cX5_kindOfWord 74 = .ok (.aload_n 0, 1) := by decide +kernel
theorem dX5_kindOfWord_75 : decode cX5_kindOfWord 75 = .ok (.getfield 66, 3) := by decide +kernel
theorem dX5_kindOfWord_78 : decode cX5_kindOfWord 78 = .ok (.aload_n 0, 1) := by decide +kernel
theorem dX5_kindOfWord_79 : decode cX5_kindOfWord 79 = .ok (.getfield 41, 3) := by decide +kernel
theorem dX5_kindOfWord_82 : decode cX5_kindOfWord 82 = .ok (.lcmp, 1) := by decide +kernel
theorem dX5_kindOfWord_83 : decode cX5_kindOfWord 83 = .ok (.ifCond .ne 6, 3) := by decide +kernel
theorem dX5_kindOfWord_86 : decode cX5_kindOfWord 86 = .ok (.bipush 10, 2) := by decide +kernel
theorem dX5_kindOfWord_88 : decode cX5_kindOfWord 88 = .ok (.ireturn, 1) := by decide +kernel
theorem dX5_kindOfWord_89 : decode cX5_kindOfWord 89 = .ok (.aload_n 0, 1) := by decide +kernel
theorem dX5_kindOfWord_90 : decode cX5_kindOfWord 90 = .ok (.getfield 66, 3) := by decide +kernel
theorem dX5_kindOfWord_93 : decode cX5_kindOfWord 93 = .ok (.aload_n 0, 1) := by decide +kernel
theorem dX5_kindOfWord_94 : decode cX5_kindOfWord 94 = .ok (.getfield 46, 3) := by decide +kernel
theorem dX5_kindOfWord_97 : decode cX5_kindOfWord 97 = .ok (.lcmp, 1) := by decide +kernel
theorem dX5_kindOfWord_98 : decode cX5_kindOfWord 98 = .ok (.ifCond .ne 8, 3) := by decide +kernel
theorem dX5_kindOfWord_101 : decode cX5_kindOfWord 101 = .ok (.bipush 11, 2) := by decide +kernel
theorem dX5_kindOfWord_103 : decode cX5_kindOfWord 103 = .ok (.goto 4, 3) := by decide +kernel
theorem dX5_kindOfWord_106 : decode cX5_kindOfWord 106 = .ok (.iconst 4, 1) := by decide +kernel
theorem dX5_kindOfWord_107 : decode cX5_kindOfWord 107 = .ok (.ireturn, 1) := by decide +kernel
theorem dX5_isLetter_0 : decode cX5_isLetter 0 = .ok (.iload_n 0, 1) := by decide +kernel
theorem dX5_isLetter_1 : decode cX5_isLetter 1 = .ok (.bipush 97, 2) := by decide +kernel
theorem dX5_isLetter_3 : decode cX5_isLetter 3 = .ok (.if_icmp .lt 13, 3) := by decide +kernel
theorem dX5_isLetter_6 : decode cX5_isLetter 6 = .ok (.iload_n 0, 1) := by decide +kernel
theorem dX5_isLetter_7 : decode cX5_isLetter 7 = .ok (.bipush 122, 2) := by decide +kernel
theorem dX5_isLetter_9 : decode cX5_isLetter 9 = .ok (.if_icmp .gt 7, 3) := by decide +kernel
theorem dX5_isLetter_12 : decode cX5_isLetter 12 = .ok (.iconst 1, 1) := by decide +kernel
theorem dX5_isLetter_13 : decode cX5_isLetter 13 = .ok (.goto 4, 3) := by decide +kernel
theorem dX5_isLetter_16 : decode cX5_isLetter 16 = .ok (.iconst 0, 1) := by decide +kernel
theorem dX5_isLetter_17 : decode cX5_isLetter 17 = .ok (.ireturn, 1) := by decide +kernel
theorem dX5_isDigit_0 : decode cX5_isDigit 0 = .ok (.iload_n 0, 1) := by decide +kernel
theorem dX5_isDigit_1 : decode cX5_isDigit 1 = .ok (.bipush 48, 2) := by decide +kernel
theorem dX5_isDigit_3 : decode cX5_isDigit 3 = .ok (.if_icmp .lt 13, 3) := by decide +kernel
theorem dX5_isDigit_6 : decode cX5_isDigit 6 = .ok (.iload_n 0, 1) := by decide +kernel
theorem dX5_isDigit_7 : decode cX5_isDigit 7 = .ok (.bipush 57, 2) := by decide +kernel
theorem dX5_isDigit_9 : decode cX5_isDigit 9 = .ok (.if_icmp .gt 7, 3) := by decide +kernel
theorem dX5_isDigit_12 : decode cX5_isDigit 12 = .ok (.iconst 1, 1) := by decide +kernel
theorem dX5_isDigit_13 : decode cX5_isDigit 13 = .ok (.goto 4, 3) := by decide +kernel
theorem dX5_isDigit_16 : decode cX5_isDigit 16 = .ok (.iconst 0, 1) := by decide +kernel
theorem dX5_isDigit_17 : decode cX5_isDigit 17 = .ok (.ireturn, 1) := by decide +kernel
theorem dX5_codeOf_0 : decode cX5_codeOf 0 = .ok (.lconst 0, 1) := by decide +kernel
theorem dX5_codeOf_1 : decode cX5_codeOf 1 = .ok (.lstore_n 1, 1) := by decide +kernel
theorem dX5_codeOf_2 : decode cX5_codeOf 2 = .ok (.iconst 0, 1) := by decide +kernel
theorem dX5_codeOf_3 : decode cX5_codeOf 3 = .ok (.istore_n 3, 1) := by decide +kernel
theorem dX5_codeOf_4 : decode cX5_codeOf 4 = .ok (.iload_n 3, 1) := by decide +kernel
theorem dX5_codeOf_5 : decode cX5_codeOf 5 = .ok (.aload_n 0, 1) := by decide +kernel
theorem dX5_codeOf_6 : decode cX5_codeOf 6 = .ok (.invokevirtual 95, 3) := by decide +kernel
theorem dX5_codeOf_9 : decode cX5_codeOf 9 = .ok (.if_icmp .ge 25, 3) := by decide +kernel
theorem dX5_codeOf_12 : decode cX5_codeOf 12 = .ok (.lload_n 1, 1) := by decide +kernel
theorem dX5_codeOf_13 : decode cX5_codeOf 13 = .ok (.iconst 5, 1) := by decide +kernel
theorem dX5_codeOf_14 : decode cX5_codeOf 14 = .ok (.lshl, 1) := by decide +kernel
theorem dX5_codeOf_15 : decode cX5_codeOf 15 = .ok (.aload_n 0, 1) := by decide +kernel
theorem dX5_codeOf_16 : decode cX5_codeOf 16 = .ok (.iload_n 3, 1) := by decide +kernel
theorem dX5_codeOf_17 : decode cX5_codeOf 17 = .ok (.invokevirtual 99, 3) := by decide +kernel
theorem dX5_codeOf_20 : decode cX5_codeOf 20 = .ok (.bipush 97, 2) := by decide +kernel
theorem dX5_codeOf_22 : decode cX5_codeOf 22 = .ok (.isub, 1) := by decide +kernel
theorem dX5_codeOf_23 : decode cX5_codeOf 23 = .ok (.iconst 1, 1) := by decide +kernel
theorem dX5_codeOf_24 : decode cX5_codeOf 24 = .ok (.iadd, 1) := by decide +kernel
theorem dX5_codeOf_25 : decode cX5_codeOf 25 = .ok (.i2l, 1) := by decide +kernel
theorem dX5_codeOf_26 : decode cX5_codeOf 26 = .ok (.lor, 1) := by decide +kernel
theorem dX5_codeOf_27 : decode cX5_codeOf 27 = .ok (.lstore_n 1, 1) := by decide +kernel
theorem dX5_codeOf_28 : decode cX5_codeOf 28 = .ok (.iinc 3 1, 3) := by decide +kernel
theorem dX5_codeOf_31 : decode cX5_codeOf 31 = .ok (.goto (-27), 3) := by decide +kernel
theorem dX5_codeOf_34 : decode cX5_codeOf 34 = .ok (.lload_n 1, 1) := by decide +kernel
theorem dX5_codeOf_35 : decode cX5_codeOf 35 = .ok (.lreturn, 1) := by decide +kernel
theorem dX6_init_0 : decode cX6_init 0 = .ok (.aload_n 0, 1) := by decide +kernel
theorem dX6_init_1 : decode cX6_init 1 = .ok (.invokespecial 3, 3) := by decide +kernel
theorem dX6_init_4 : decode cX6_init 4 = .ok (.aload_n 0, 1) := by decide +kernel
theorem dX6_init_5 : decode cX6_init 5 = .ok (.new 9, 3) := by decide +kernel
theorem dX6_init_8 : decode cX6_init 8 = .ok (.dup, 1) := by decide +kernel
theorem dX6_init_9 : decode cX6_init 9 = .ok (.invokespecial 11, 3) := by decide +kernel
theorem dX6_init_12 : decode cX6_init 12 = .ok (.putfield 12, 3) := by decide +kernel
theorem dX6_init_15 : decode cX6_init 15 = .ok (.aload_n 0, 1) := by decide +kernel
theorem dX6_init_16 : decode cX6_init 16 = .ok (.new 18, 3) := by decide +kernel
theorem dX6_init_19 : decode cX6_init 19 = .ok (.dup, 1) := by decide +kernel
theorem dX6_init_20 : decode cX6_init 20 = .ok (.invokespecial 20, 3) := by decide +kernel
theorem dX6_init_23 : decode cX6_init 23 = .ok (.putfield 21, 3) := by decide +kernel
theorem dX6_init_26 : decode cX6_init 26 = .ok (.aload_n 0, 1) := by decide +kernel
theorem dX6_init_27 : decode cX6_init 27 = .ok (.iconst 0, 1) := by decide +kernel
theorem dX6_init_28 : decode cX6_init 28 = .ok (.putfield 25, 3) := by decide +kernel
theorem dX6_init_31 : decode cX6_init 31 = .ok (.aload_n 0, 1) := by decide +kernel
theorem dX6_init_32 : decode cX6_init 32 = .ok (.iconst (-1), 1) := by decide +kernel
theorem dX6_init_33 : decode cX6_init 33 = .ok (.putfield 29, 3) := by decide +kernel
theorem dX6_init_36 : decode cX6_init 36 = .ok (.return_, 1) := by decide +kernel
theorem dX6_copy_0 : decode cX6_copy 0 = .ok (.aload_n 0, 1) := by decide +kernel
theorem dX6_copy_1 : decode cX6_copy 1 = .ok (.iconst 0, 1) := by decide +kernel
theorem dX6_copy_2 : decode cX6_copy 2 = .ok (.putfield 25, 3) := by decide +kernel
theorem dX6_copy_5 : decode cX6_copy 5 = .ok (.aload_n 0, 1) := by decide +kernel
theorem dX6_copy_6 : decode cX6_copy 6 = .ok (.iconst (-1), 1) := by decide +kernel
theorem dX6_copy_7 : decode cX6_copy 7 = .ok (.putfield 29, 3) := by decide +kernel
theorem dX6_copy_10 : decode cX6_copy 10 = .ok (.aload_n 0, 1) := by decide +kernel
theorem dX6_copy_11 : decode cX6_copy 11 = .ok (.getfield 21, 3) := by decide +kernel
theorem dX6_copy_14 : decode cX6_copy 14 = .ok (.invokevirtual 32, 3) := by decide +kernel
theorem dX6_copy_17 : decode cX6_copy 17 = .ok (.aload_n 0, 1) := by decide +kernel
theorem dX6_copy_18 : decode cX6_copy 18 = .ok (.getfield 12, 3) := by decide +kernel
theorem dX6_copy_21 : decode cX6_copy 21 = .ok (.aload_n 1, 1) := by decide +kernel
theorem dX6_copy_22 : decode cX6_copy 22 = .ok (.iload_n 2, 1) := by decide +kernel
