theorem dX6_copy_23 : decode cX6_copy 23 = .ok (.invokevirtual 35, 3) := by decide +kernel
theorem dX6_copy_26 : decode cX6_copy 26 = .ok (.aload_n 0, 1) := by decide +kernel
theorem dX6_copy_27 : decode cX6_copy 27 = .ok (.getfield 12, 3) := by decide +kernel
theorem dX6_copy_30 : decode cX6_copy 30 = .ok (.invokevirtual 39, 3) := by decide +kernel
theorem dX6_copy_33 : decode cX6_copy 33 = .ok (.iconst 0, 1) := by decide +kernel
theorem dX6_copy_34 : decode cX6_copy 34 = .ok (.istore_n 3, 1) := by decide +kernel
theorem dX6_copy_35 : decode cX6_copy 35 = .ok (.iload_n 3, 1) := by decide +kernel
theorem dX6_copy_36 : decode cX6_copy 36 = .ok (.sipush 1700, 3) := by decide +kernel
theorem dX6_copy_39 : decode cX6_copy 39 = .ok (.if_icmp .ge 121, 3) := by decide +kernel
theorem dX6_copy_42 : decode cX6_copy 42 = .ok (.aload_n 0, 1) := by decide +kernel
theorem dX6_copy_43 : decode cX6_copy 43 = .ok (.getfield 25, 3) := by decide +kernel
theorem dX6_copy_46 : decode cX6_copy 46 = .ok (.ifCond .ne 114, 3) := by decide +kernel
theorem dX6_copy_49 : decode cX6_copy 49 = .ok (.aload_n 0, 1) := by decide +kernel
theorem dX6_copy_50 : decode cX6_copy 50 = .ok (.getfield 12, 3) := by decide +kernel
theorem dX6_copy_53 : decode cX6_copy 53 = .ok (.getfield 42, 3) := by decide +kernel
theorem dX6_copy_56 : decode cX6_copy 56 = .ok (.ifCond .eq 104, 3) := by decide +kernel
theorem dX6_copy_59 : decode cX6_copy 59 = .ok (.aload_n 0, 1) := by decide +kernel
theorem dX6_copy_60 : decode cX6_copy 60 = .ok (.getfield 12, 3) := by decide +kernel
theorem dX6_copy_63 : decode cX6_copy 63 = .ok (.getfield 42, 3) := by decide +kernel
theorem dX6_copy_66 : decode cX6_copy 66 = .ok (.tableswitch 77 5 11 #[42, 77, 77, 49, 56, 63, 70], 42) := by decide +kernel
theorem dX6_copy_108 : decode cX6_copy 108 = .ok (.aload_n 0, 1) := by decide +kernel
theorem dX6_copy_109 : decode cX6_copy 109 = .ok (.invokevirtual 45, 3) := by decide +kernel
theorem dX6_copy_112 : decode cX6_copy 112 = .ok (.goto 35, 3) := by decide +kernel
theorem dX6_copy_115 : decode cX6_copy 115 = .ok (.aload_n 0, 1) := by decide +kernel
theorem dX6_copy_116 : decode cX6_copy 116 = .ok (.invokevirtual 48, 3) := by decide +kernel
theorem dX6_copy_119 : decode cX6_copy 119 = .ok (.goto 28, 3) := by decide +kernel
theorem dX6_copy_122 : decode cX6_copy 122 = .ok (.aload_n 0, 1) := by decide +kernel
theorem dX6_copy_123 : decode cX6_copy 123 = .ok (.invokevirtual 51, 3) := by decide +kernel
theorem dX6_copy_126 : decode cX6_copy 126 = .ok (.goto 21, 3) := by decide +kernel
theorem dX6_copy_129 : decode cX6_copy 129 = .ok (.aload_n 0, 1) := by decide +kernel
theorem dX6_copy_130 : decode cX6_copy 130 = .ok (.invokevirtual 54, 3) := by decide +kernel
theorem dX6_copy_133 : decode cX6_copy 133 = .ok (.goto 14, 3) := by decide +kernel
theorem dX6_copy_136 : decode cX6_copy 136 = .ok (.aload_n 0, 1) := by decide +kernel
theorem dX6_copy_137 : decode cX6_copy 137 = .ok (.invokevirtual 57, 3) := by decide +kernel
theorem dX6_copy_140 : decode cX6_copy 140 = .ok (.goto 7, 3) := by decide +kernel
theorem dX6_copy_143 : decode cX6_copy 143 = .ok (.aload_n 0, 1) := by decide +kernel
theorem dX6_copy_144 : decode cX6_copy 144 = .ok (.invokevirtual 60, 3) := by decide +kernel
theorem dX6_copy_147 : decode cX6_copy 147 = .ok (.aload_n 0, 1) := by decide +kernel
theorem dX6_copy_148 : decode cX6_copy 148 = .ok (.getfield 12, 3) := by decide +kernel
theorem dX6_copy_151 : decode cX6_copy 151 = .ok (.invokevirtual 39, 3) := by decide +kernel
theorem dX6_copy_154 : decode cX6_copy 154 = .ok (.iinc 3 1, 3) := by decide +kernel
theorem dX6_copy_157 : decode cX6_copy 157 = .ok (.goto (-122), 3) := by decide +kernel
theorem dX6_copy_160 : decode cX6_copy 160 = .ok (.return_, 1) := by decide +kernel
theorem dX6_trade_0 : decode cX6_trade 0 = .ok (.aload_n 0, 1) := by decide +kernel
theorem dX6_trade_1 : decode cX6_trade 1 = .ok (.getfield 21, 3) := by decide +kernel
theorem dX6_trade_4 : decode cX6_trade 4 = .ok (.astore_n 2, 1) := by decide +kernel
theorem dX6_trade_5 : decode cX6_trade 5 = .ok (.aload_n 0, 1) := by decide +kernel
theorem dX6_trade_6 : decode cX6_trade 6 = .ok (.aload_n 1, 1) := by decide +kernel
theorem dX6_trade_7 : decode cX6_trade 7 = .ok (.putfield 21, 3) := by decide +kernel
theorem dX6_trade_10 : decode cX6_trade 10 = .ok (.aload_n 2, 1) := by decide +kernel
theorem dX6_trade_11 : decode cX6_trade 11 = .ok (.areturn, 1) := by decide +kernel
theorem dX6_copySmith_0 : decode cX6_copySmith 0 = .ok (.aload_n 0, 1) := by decide +kernel
theorem dX6_copySmith_1 : decode cX6_copySmith 1 = .ok (.aload_n 0, 1) := by decide +kernel
theorem dX6_copySmith_2 : decode cX6_copySmith 2 = .ok (.getfield 21, 3) := by decide +kernel
theorem dX6_copySmith_5 : decode cX6_copySmith 5 = .ok (.getfield 63, 3) := by decide +kernel
theorem dX6_copySmith_8 : decode cX6_copySmith 8 = .ok (.bipush 8, 2) := by decide +kernel
theorem dX6_copySmith_10 : decode cX6_copySmith 10 = .ok (.invokevirtual 66, 3) := by decide +kernel
theorem dX6_copySmith_13 : decode cX6_copySmith 13 = .ok (.ifCond .eq 11, 3) := by decide +kernel
theorem dX6_copySmith_16 : decode cX6_copySmith 16 = .ok (.aload_n 0, 1) := by decide +kernel
theorem dX6_copySmith_17 : decode cX6_copySmith 17 = .ok (.iconst 4, 1) := by decide +kernel
theorem dX6_copySmith_18 : decode cX6_copySmith 18 = .ok (.invokevirtual 70, 3) := by decide +kernel
theorem dX6_copySmith_21 : decode cX6_copySmith 21 = .ok (.ifCond .ne 4, 3) := by decide +kernel
theorem dX6_copySmith_24 : decode cX6_copySmith 24 = .ok (.return_, 1) := by decide +kernel
theorem dX6_copySmith_25 : decode cX6_copySmith 25 = .ok (.aload_n 0, 1) := by decide +kernel
theorem dX6_copySmith_26 : decode cX6_copySmith 26 = .ok (.getfield 12, 3) := by decide +kernel
theorem dX6_copySmith_29 : decode cX6_copySmith 29 = .ok (.getfield 74, 3) := by decide +kernel
theorem dX6_copySmith_32 : decode cX6_copySmith 32 = .ok (.lstore_n 1, 1) := by decide +kernel
theorem dX6_copySmith_33 : decode cX6_copySmith 33 = .ok (.aload_n 0, 1) := by decide +kernel
theorem dX6_copySmith_34 : decode cX6_copySmith 34 = .ok (.getfield 21, 3) := by decide +kernel
theorem dX6_copySmith_37 : decode cX6_copySmith 37 = .ok (.lload_n 1, 1) := by decide +kernel
theorem dX6_copySmith_38 : decode cX6_copySmith 38 = .ok (.invokevirtual 78, 3) := by decide +kernel
theorem dX6_copySmith_41 : decode cX6_copySmith 41 = .ok (.iconst (-1), 1) := by decide +kernel
theorem dX6_copySmith_42 : decode cX6_copySmith 42 = .ok (.if_icmp .eq 9, 3) := by decide +kernel
theorem dX6_copySmith_45 : decode cX6_copySmith 45 = .ok (.aload_n 0, 1) := by decide +kernel
theorem dX6_copySmith_46 : decode cX6_copySmith 46 = .ok (.iconst 3, 1) := by decide +kernel
theorem dX6_copySmith_47 : decode cX6_copySmith 47 = .ok (.invokevirtual 82, 3) := by decide +kernel
theorem dX6_copySmith_50 : decode cX6_copySmith 50 = .ok (.return_, 1) := by decide +kernel
theorem dX6_copySmith_51 : decode cX6_copySmith 51 = .ok (.aload_n 0, 1) := by decide +kernel
theorem dX6_copySmith_52 : decode cX6_copySmith 52 = .ok (.getfield 12, 3) := by decide +kernel
theorem dX6_copySmith_55 : decode cX6_copySmith 55 = .ok (.invokevirtual 39, 3) := by decide +kernel
theorem dX6_copySmith_58 : decode cX6_copySmith 58 = .ok (.aload_n 0, 1) := by decide +kernel
theorem dX6_copySmith_59 : decode cX6_copySmith 59 = .ok (.getfield 12, 3) := by decide +kernel
theorem dX6_copySmith_62 : decode cX6_copySmith 62 = .ok (.getfield 42, 3) := by decide +kernel
theorem dX6_copySmith_65 : decode cX6_copySmith 65 = .ok (.bipush 6, 2) := by decide +kernel
theorem dX6_copySmith_67 : decode cX6_copySmith 67 = .ok (.if_icmp .ne 7, 3) := by decide +kernel
theorem dX6_copySmith_70 : decode cX6_copySmith 70 = .ok (.iconst 1, 1) := by decide +kernel
theorem dX6_copySmith_71 : decode cX6_copySmith 71 = .ok (.goto 4, 3) := by decide +kernel
theorem dX6_copySmith_74 : decode cX6_copySmith 74 = .ok (.iconst 0, 1) := by decide +kernel
theorem dX6_copySmith_75 : decode cX6_copySmith 75 = .ok (.istore_n 3, 1) := by decide +kernel
theorem dX6_copySmith_76 : decode cX6_copySmith 76 = .ok (.iload_n 3, 1) := by decide +kernel
theorem dX6_copySmith_77 : decode cX6_copySmith 77 = .ok (.ifCond .eq 10, 3) := by decide +kernel
theorem dX6_copySmith_80 : decode cX6_copySmith 80 = .ok (.aload_n 0, 1) := by decide +kernel
theorem dX6_copySmith_81 : decode cX6_copySmith 81 = .ok (.getfield 12, 3) := by decide +kernel
theorem dX6_copySmith_84 : decode cX6_copySmith 84 = .ok (.invokevirtual 39, 3) := by decide +kernel
theorem dX6_copySmith_87 : decode cX6_copySmith 87 = .ok (.aload_n 0, 1) := by decide +kernel
theorem dX6_copySmith_88 : decode cX6_copySmith 88 = .ok (.getfield 12, 3) := by decide +kernel
theorem dX6_copySmith_91 : decode cX6_copySmith 91 = .ok (.getfield 42, 3) := by decide +kernel
theorem dX6_copySmith_94 : decode cX6_copySmith 94 = .ok (.bipush 7, 2) := by decide +kernel
theorem dX6_copySmith_96 : decode cX6_copySmith 96 = .ok (.if_icmp .eq 8, 3) := by decide +kernel
theorem dX6_copySmith_99 : decode cX6_copySmith 99 = .ok (.aload_n 0, 1) := by decide +kernel
theorem dX6_copySmith_100 : decode cX6_copySmith 100 = .ok (.invokevirtual 60, 3) := by decide +kernel
theorem dX6_copySmith_103 : decode cX6_copySmith 103 = .ok (.return_, 1) := by decide +kernel
theorem dX6_copySmith_104 : decode cX6_copySmith 104 = .ok (.aload_n 0, 1) := by decide +kernel
theorem dX6_copySmith_105 : decode cX6_copySmith 105 = .ok (.bipush 99, 2) := by decide +kernel
theorem dX6_copySmith_107 : decode cX6_copySmith 107 = .ok (.invokevirtual 86, 3) := by decide +kernel
theorem dX6_copySmith_110 : decode cX6_copySmith 110 = .ok (.ifCond .ne 4, 3) := by decide +kernel
theorem dX6_copySmith_113 : decode cX6_copySmith 113 = .ok (.return_, 1) := by decide +kernel
theorem dX6_copySmith_114 : decode cX6_copySmith 114 = .ok (.aload_n 0, 1) := by decide +kernel
theorem dX6_copySmith_115 : decode cX6_copySmith 115 = .ok (.iconst 3, 1) := by decide +kernel
theorem dX6_copySmith_116 : decode cX6_copySmith 116 = .ok (.invokevirtual 70, 3) := by decide +kernel
theorem dX6_copySmith_119 : decode cX6_copySmith 119 = .ok (.ifCond .eq 19, 3) := by decide +kernel
theorem dX6_copySmith_122 : decode cX6_copySmith 122 = .ok (.aload_n 0, 1) := by decide +kernel
theorem dX6_copySmith_123 : decode cX6_copySmith 123 = .ok (.getfield 21, 3) := by decide +kernel
theorem dX6_copySmith_126 : decode cX6_copySmith 126 = .ok (.lload_n 1, 1) := by decide +kernel
theorem dX6_copySmith_127 : decode cX6_copySmith 127 = .ok (.iload_n 3, 1) := by decide +kernel
theorem dX6_copySmith_128 : decode cX6_copySmith 128 = .ok (.aload_n 0, 1) := by decide +kernel
theorem dX6_copySmith_129 : decode cX6_copySmith 129 = .ok (.getfield 12, 3) := by decide +kernel
theorem dX6_copySmith_132 : decode cX6_copySmith 132 = .ok (.getfield 89, 3) := by decide +kernel
theorem dX6_copySmith_135 : decode cX6_copySmith 135 = .ok (.invokevirtual 92, 3) := by decide +kernel
theorem dX6_copySmith_138 : decode cX6_copySmith 138 = .ok (.return_, 1) := by decide +kernel
theorem dX6_copyHorse_0 : decode cX6_copyHorse 0 = .ok (.aload_n 0, 1) := by decide +kernel
theorem dX6_copyHorse_1 : decode cX6_copyHorse 1 = .ok (.aload_n 0, 1) := by decide +kernel
theorem dX6_copyHorse_2 : decode cX6_copyHorse 2 = .ok (.getfield 21, 3) := by decide +kernel
theorem dX6_copyHorse_5 : decode cX6_copyHorse 5 = .ok (.getfield 96, 3) := by decide +kernel
theorem dX6_copyHorse_8 : decode cX6_copyHorse 8 = .ok (.bipush 10, 2) := by decide +kernel
theorem dX6_copyHorse_10 : decode cX6_copyHorse 10 = .ok (.invokevirtual 66, 3) := by decide +kernel
theorem dX6_copyHorse_13 : decode cX6_copyHorse 13 = .ok (.ifCond .eq 11, 3) := by decide +kernel
theorem dX6_copyHorse_16 : decode cX6_copyHorse 16 = .ok (.aload_n 0, 1) := by decide +kernel
theorem dX6_copyHorse_17 : decode cX6_copyHorse 17 = .ok (.iconst 4, 1) := by decide +kernel
theorem dX6_copyHorse_18 : decode cX6_copyHorse 18 = .ok (.invokevirtual 70, 3) := by decide +kernel
theorem dX6_copyHorse_21 : decode cX6_copyHorse 21 = .ok (.ifCond .ne 4, 3) := by decide +kernel
theorem dX6_copyHorse_24 : decode cX6_copyHorse 24 = .ok (.return_, 1) := by decide +kernel
theorem dX6_copyHorse_25 : decode cX6_copyHorse 25 = .ok (.aload_n 0, 1) := by decide +kernel
theorem dX6_copyHorse_26 : decode cX6_copyHorse 26 = .ok (.getfield 21, 3) := by decide +kernel
theorem dX6_copyHorse_29 : decode cX6_copyHorse 29 = .ok (.aload_n 0, 1) := by decide +kernel
theorem dX6_copyHorse_30 : decode cX6_copyHorse 30 = .ok (.getfield 12, 3) := by decide +kernel
theorem dX6_copyHorse_33 : decode cX6_copyHorse 33 = .ok (.getfield 74, 3) := by decide +kernel
theorem dX6_copyHorse_36 : decode cX6_copyHorse 36 = .ok (.invokevirtual 99, 3) := by decide +kernel
theorem dX6_copyHorse_39 : decode cX6_copyHorse 39 = .ok (.iconst (-1), 1) := by decide +kernel
theorem dX6_copyHorse_40 : decode cX6_copyHorse 40 = .ok (.if_icmp .eq 11, 3) := by decide +kernel
theorem dX6_copyHorse_43 : decode cX6_copyHorse 43 = .ok (.aload_n 0, 1) := by decide +kernel
theorem dX6_copyHorse_44 : decode cX6_copyHorse 44 = .ok (.iconst 3, 1) := by decide +kernel
theorem dX6_copyHorse_45 : decode cX6_copyHorse 45 = .ok (.invokevirtual 82, 3) := by decide +kernel
theorem dX6_copyHorse_48 : decode cX6_copyHorse 48 = .ok (.goto 25, 3) := by decide +kernel
theorem dX6_copyHorse_51 : decode cX6_copyHorse 51 = .ok (.aload_n 0, 1) := by decide +kernel
theorem dX6_copyHorse_52 : decode cX6_copyHorse 52 = .ok (.iconst 3, 1) := by decide +kernel
theorem dX6_copyHorse_53 : decode cX6_copyHorse 53 = .ok (.invokevirtual 70, 3) := by decide +kernel
theorem dX6_copyHorse_56 : decode cX6_copyHorse 56 = .ok (.ifCond .eq 17, 3) := by decide +kernel
theorem dX6_copyHorse_59 : decode cX6_copyHorse 59 = .ok (.aload_n 0, 1) := by decide +kernel
theorem dX6_copyHorse_60 : decode cX6_copyHorse 60 = .ok (.getfield 21, 3) := by decide +kernel
theorem dX6_copyHorse_63 : decode cX6_copyHorse 63 = .ok (.aload_n 0, 1) := by decide +kernel
theorem dX6_copyHorse_64 : decode cX6_copyHorse 64 = .ok (.getfield 12, 3) := by decide +kernel
theorem dX6_copyHorse_67 : decode cX6_copyHorse 67 = .ok (.getfield 74, 3) := by decide +kernel
theorem dX6_copyHorse_70 : decode cX6_copyHorse 70 = .ok (.invokevirtual 102, 3) := by decide +kernel
theorem dX6_copyHorse_73 : decode cX6_copyHorse 73 = .ok (.return_, 1) := by decide +kernel
theorem dX6_copyHours_0 : decode cX6_copyHours 0 = .ok (.aload_n 0, 1) := by decide +kernel
theorem dX6_copyHours_1 : decode cX6_copyHours 1 = .ok (.aload_n 0, 1) := by decide +kernel
theorem dX6_copyHours_2 : decode cX6_copyHours 2 = .ok (.getfield 21, 3) := by decide +kernel
theorem dX6_copyHours_5 : decode cX6_copyHours 5 = .ok (.getfield 106, 3) := by decide +kernel
theorem dX6_copyHours_8 : decode cX6_copyHours 8 = .ok (.bipush 60, 2) := by decide +kernel
theorem dX6_copyHours_10 : decode cX6_copyHours 10 = .ok (.invokevirtual 66, 3) := by decide +kernel
theorem dX6_copyHours_13 : decode cX6_copyHours 13 = .ok (.ifCond .ne 4, 3) := by decide +kernel
theorem dX6_copyHours_16 : decode cX6_copyHours 16 = .ok (.return_, 1) := by decide +kernel
theorem dX6_copyHours_17 : decode cX6_copyHours 17 = .ok (.aload_n 0, 1) := by decide +kernel
theorem dX6_copyHours_18 : decode cX6_copyHours 18 = .ok (.invokevirtual 109, 3) := by decide +kernel
theorem dX6_copyHours_21 : decode cX6_copyHours 21 = .ok (.istore_n 1, 1) := by decide +kernel
theorem dX6_copyHours_22 : decode cX6_copyHours 22 = .ok (.iload_n 1, 1) := by decide +kernel
theorem dX6_copyHours_23 : decode cX6_copyHours 23 = .ok (.iconst (-1), 1) := by decide +kernel
theorem dX6_copyHours_24 : decode cX6_copyHours 24 = .ok (.if_icmp .eq 11, 3) := by decide +kernel
theorem dX6_copyHours_27 : decode cX6_copyHours 27 = .ok (.aload_n 0, 1) := by decide +kernel
theorem dX6_copyHours_28 : decode cX6_copyHours 28 = .ok (.iconst 4, 1) := by decide +kernel
theorem dX6_copyHours_29 : decode cX6_copyHours 29 = .ok (.invokevirtual 70, 3) := by decide +kernel
theorem dX6_copyHours_32 : decode cX6_copyHours 32 = .ok (.ifCond .ne 4, 3) := by decide +kernel
theorem dX6_copyHours_35 : decode cX6_copyHours 35 = .ok (.return_, 1) := by decide +kernel
theorem dX6_copyHours_36 : decode cX6_copyHours 36 = .ok (.aload_n 0, 1) := by decide +kernel
theorem dX6_copyHours_37 : decode cX6_copyHours 37 = .ok (.getfield 21, 3) := by decide +kernel
theorem dX6_copyHours_40 : decode cX6_copyHours 40 = .ok (.aload_n 0, 1) := by decide +kernel
theorem dX6_copyHours_41 : decode cX6_copyHours 41 = .ok (.getfield 12, 3) := by decide +kernel
theorem dX6_copyHours_44 : decode cX6_copyHours 44 = .ok (.getfield 74, 3) := by decide +kernel
theorem dX6_copyHours_47 : decode cX6_copyHours 47 = .ok (.invokevirtual 99, 3) := by decide +kernel
theorem dX6_copyHours_50 : decode cX6_copyHours 50 = .ok (.istore_n 2, 1) := by decide +kernel
theorem dX6_copyHours_51 : decode cX6_copyHours 51 = .ok (.iload_n 2, 1) := by decide +kernel
theorem dX6_copyHours_52 : decode cX6_copyHours 52 = .ok (.iconst (-1), 1) := by decide +kernel
theorem dX6_copyHours_53 : decode cX6_copyHours 53 = .ok (.if_icmp .ne 11, 3) := by decide +kernel
theorem dX6_copyHours_56 : decode cX6_copyHours 56 = .ok (.aload_n 0, 1) := by decide +kernel
theorem dX6_copyHours_57 : decode cX6_copyHours 57 = .ok (.iconst 5, 1) := by decide +kernel
theorem dX6_copyHours_58 : decode cX6_copyHours 58 = .ok (.invokevirtual 82, 3) := by decide +kernel
theorem dX6_copyHours_61 : decode cX6_copyHours 61 = .ok (.goto 60, 3) := by decide +kernel
theorem dX6_copyHours_64 : decode cX6_copyHours 64 = .ok (.aload_n 0, 1) := by decide +kernel
theorem dX6_copyHours_65 : decode cX6_copyHours 65 = .ok (.getfield 21, 3) := by decide +kernel
theorem dX6_copyHours_68 : decode cX6_copyHours 68 = .ok (.getfield 113, 3) := by decide +kernel
theorem dX6_copyHours_71 : decode cX6_copyHours 71 = .ok (.iload_n 1, 1) := by decide +kernel
theorem dX6_copyHours_72 : decode cX6_copyHours 72 = .ok (.iaload, 1) := by decide +kernel
theorem dX6_copyHours_73 : decode cX6_copyHours 73 = .ok (.iload_n 2, 1) := by decide +kernel
theorem dX6_copyHours_74 : decode cX6_copyHours 74 = .ok (.ishr, 1) := by decide +kernel
theorem dX6_copyHours_75 : decode cX6_copyHours 75 = .ok (.iconst 1, 1) := by decide +kernel
theorem dX6_copyHours_76 : decode cX6_copyHours 76 = .ok (.iand, 1) := by decide +kernel
theorem dX6_copyHours_77 : decode cX6_copyHours 77 = .ok (.ifCond .eq 11, 3) := by decide +kernel
theorem dX6_copyHours_80 : decode cX6_copyHours 80 = .ok (.aload_n 0, 1) := by decide +kernel
theorem dX6_copyHours_81 : decode cX6_copyHours 81 = .ok (.iconst 3, 1) := by decide +kernel
theorem dX6_copyHours_82 : decode cX6_copyHours 82 = .ok (.invokevirtual 82, 3) := by decide +kernel
theorem dX6_copyHours_85 : decode cX6_copyHours 85 = .ok (.goto 36, 3) := by decide +kernel
theorem dX6_copyHours_88 : decode cX6_copyHours 88 = .ok (.aload_n 0, 1) := by decide +kernel
theorem dX6_copyHours_89 : decode cX6_copyHours 89 = .ok (.bipush 99, 2) := by decide +kernel
theorem dX6_copyHours_91 : decode cX6_copyHours 91 = .ok (.invokevirtual 86, 3) := by decide +kernel
theorem dX6_copyHours_94 : decode cX6_copyHours 94 = .ok (.ifCond .eq 27, 3) := by decide +kernel
theorem dX6_copyHours_97 : decode cX6_copyHours 97 = .ok (.aload_n 0, 1) := by decide +kernel
theorem dX6_copyHours_98 : decode cX6_copyHours 98 = .ok (.iconst 3, 1) := by decide +kernel
theorem dX6_copyHours_99 : decode cX6_copyHours 99 = .ok (.invokevirtual 70, 3) := by decide +kernel
theorem dX6_copyHours_102 : decode cX6_copyHours 102 = .ok (.ifCond .eq 19, 3) := by decide +kernel
theorem dX6_copyHours_105 : decode cX6_copyHours 105 = .ok (.aload_n 0, 1) := by decide +kernel
theorem dX6_copyHours_106 : decode cX6_copyHours 106 = .ok (.getfield 21, 3) := by decide +kernel
theorem dX6_copyHours_109 : decode cX6_copyHours 109 = .ok (.iload_n 1, 1) := by decide +kernel
theorem dX6_copyHours_110 : decode cX6_copyHours 110 = .ok (.iload_n 2, 1) := by decide +kernel
theorem dX6_copyHours_111 : decode cX6_copyHours 111 = .ok (.aload_n 0, 1) := by decide +kernel
theorem dX6_copyHours_112 : decode cX6_copyHours 112 = .ok (.getfield 12, 3) := by decide +kernel
theorem dX6_copyHours_115 : decode cX6_copyHours 115 = .ok (.getfield 89, 3) := by decide +kernel
theorem dX6_copyHours_118 : decode cX6_copyHours 118 = .ok (.invokevirtual 117, 3) := by decide +kernel
theorem dX6_copyHours_121 : decode cX6_copyHours 121 = .ok (.return_, 1) := by decide +kernel
theorem dX6_copyLends_0 : decode cX6_copyLends 0 = .ok (.aload_n 0, 1) := by decide +kernel
theorem dX6_copyLends_1 : decode cX6_copyLends 1 = .ok (.aload_n 0, 1) := by decide +kernel
theorem dX6_copyLends_2 : decode cX6_copyLends 2 = .ok (.getfield 21, 3) := by decide +kernel
theorem dX6_copyLends_5 : decode cX6_copyLends 5 = .ok (.getfield 121, 3) := by decide +kernel
theorem dX6_copyLends_8 : decode cX6_copyLends 8 = .ok (.bipush 20, 2) := by decide +kernel
theorem dX6_copyLends_10 : decode cX6_copyLends 10 = .ok (.invokevirtual 66, 3) := by decide +kernel
theorem dX6_copyLends_13 : decode cX6_copyLends 13 = .ok (.ifCond .ne 4, 3) := by decide +kernel
theorem dX6_copyLends_16 : decode cX6_copyLends 16 = .ok (.return_, 1) := by decide +kernel
theorem dX6_copyLends_17 : decode cX6_copyLends 17 = .ok (.aload_n 0, 1) := by decide +kernel
theorem dX6_copyLends_18 : decode cX6_copyLends 18 = .ok (.invokevirtual 124, 3) := by decide +kernel
theorem dX6_copyLends_21 : decode cX6_copyLends 21 = .ok (.istore_n 1, 1) := by decide +kernel
theorem dX6_copyLends_22 : decode cX6_copyLends 22 = .ok (.iload_n 1, 1) := by decide +kernel
theorem dX6_copyLends_23 : decode cX6_copyLends 23 = .ok (.iconst (-1), 1) := by decide +kernel
theorem dX6_copyLends_24 : decode cX6_copyLends 24 = .ok (.if_icmp .ne 4, 3) := by decide +kernel
theorem dX6_copyLends_27 : decode cX6_copyLends 27 = .ok (.return_, 1) := by decide +kernel
theorem dX6_copyLends_28 : decode cX6_copyLends 28 = .ok (.aload_n 0, 1) := by decide +kernel
theorem dX6_copyLends_29 : decode cX6_copyLends 29 = .ok (.invokevirtual 124, 3) := by decide +kernel
theorem dX6_copyLends_32 : decode cX6_copyLends 32 = .ok (.istore_n 2, 1) := by decide +kernel
theorem dX6_copyLends_33 : decode cX6_copyLends 33 = .ok (.iload_n 2, 1) := by decide +kernel
theorem dX6_copyLends_34 : decode cX6_copyLends 34 = .ok (.iconst (-1), 1) := by decide +kernel
theorem dX6_copyLends_35 : decode cX6_copyLends 35 = .ok (.if_icmp .ne 4, 3) := by decide +kernel
theorem dX6_copyLends_38 : decode cX6_copyLends 38 = .ok (.return_, 1) := by decide +kernel
theorem dX6_copyLends_39 : decode cX6_copyLends 39 = .ok (.iload_n 1, 1) := by decide +kernel
theorem dX6_copyLends_40 : decode cX6_copyLends 40 = .ok (.iload_n 2, 1) := by decide +kernel
theorem dX6_copyLends_41 : decode cX6_copyLends 41 = .ok (.if_icmp .eq 19, 3) := by decide +kernel
theorem dX6_copyLends_44 : decode cX6_copyLends 44 = .ok (.aload_n 0, 1) := by decide +kernel
theorem dX6_copyLends_45 : decode cX6_copyLends 45 = .ok (.getfield 21, 3) := by decide +kernel
theorem dX6_copyLends_48 : decode cX6_copyLends 48 = .ok (.getfield 127, 3) := by decide +kernel
theorem dX6_copyLends_51 : decode cX6_copyLends 51 = .ok (.iload_n 1, 1) := by decide +kernel
theorem dX6_copyLends_52 : decode cX6_copyLends 52 = .ok (.iaload, 1) := by decide +kernel
theorem dX6_copyLends_53 : decode cX6_copyLends 53 = .ok (.iload_n 2, 1) := by decide +kernel
theorem dX6_copyLends_54 : decode cX6_copyLends 54 = .ok (.ishr, 1) := by decide +kernel
theorem dX6_copyLends_55 : decode cX6_copyLends 55 = .ok (.iconst 1, 1) := by decide +kernel
theorem dX6_copyLends_56 : decode cX6_copyLends 56 = .ok (.iand, 1) := by decide +kernel
theorem dX6_copyLends_57 : decode cX6_copyLends 57 = .ok (.ifCond .eq 11, 3) := by decide +kernel
theorem dX6_copyLends_60 : decode cX6_copyLends 60 = .ok (.aload_n 0, 1) := by decide +kernel
theorem dX6_copyLends_61 : decode cX6_copyLends 61 = .ok (.iconst 3, 1) := by decide +kernel
theorem dX6_copyLends_62 : decode cX6_copyLends 62 = .ok (.invokevirtual 82, 3) := by decide +kernel
theorem dX6_copyLends_65 : decode cX6_copyLends 65 = .ok (.goto 20, 3) := by decide +kernel
theorem dX6_copyLends_68 : decode cX6_copyLends 68 = .ok (.aload_n 0, 1) := by decide +kernel
theorem dX6_copyLends_69 : decode cX6_copyLends 69 = .ok (.iconst 3, 1) := by decide +kernel
theorem dX6_copyLends_70 : decode cX6_copyLends 70 = .ok (.invokevirtual 70, 3) := by decide +kernel
theorem dX6_copyLends_73 : decode cX6_copyLends 73 = .ok (.ifCond .eq 12, 3) := by decide +kernel
theorem dX6_copyLends_76 : decode cX6_copyLends 76 = .ok (.aload_n 0, 1) := by decide +kernel
theorem dX6_copyLends_77 : decode cX6_copyLends 77 = .ok (.getfield 21, 3) := by decide +kernel
theorem dX6_copyLends_80 : decode cX6_copyLends 80 = .ok (.iload_n 1, 1) := by decide +kernel
theorem dX6_copyLends_81 : decode cX6_copyLends 81 = .ok (.iload_n 2, 1) := by decide +kernel
theorem dX6_copyLends_82 : decode cX6_copyLends 82 = .ok (.invokevirtual 130, 3) := by decide +kernel
theorem dX6_copyLends_85 : decode cX6_copyLends 85 = .ok (.return_, 1) := by decide +kernel
theorem dX6_copyLate_0 : decode cX6_copyLate 0 = .ok (.aload_n 0, 1) := by decide +kernel
theorem dX6_copyLate_1 : decode cX6_copyLate 1 = .ok (.getfield 21, 3) := by decide +kernel
theorem dX6_copyLate_4 : decode cX6_copyLate 4 = .ok (.getfield 134, 3) := by decide +kernel
theorem dX6_copyLate_7 : decode cX6_copyLate 7 = .ok (.iconst (-1), 1) := by decide +kernel
theorem dX6_copyLate_8 : decode cX6_copyLate 8 = .ok (.if_icmp .ne 7, 3) := by decide +kernel
theorem dX6_copyLate_11 : decode cX6_copyLate 11 = .ok (.iconst 0, 1) := by decide +kernel
theorem dX6_copyLate_12 : decode cX6_copyLate 12 = .ok (.goto 4, 3) := by decide +kernel
theorem dX6_copyLate_15 : decode cX6_copyLate 15 = .ok (.iconst 1, 1) := by decide +kernel
theorem dX6_copyLate_16 : decode cX6_copyLate 16 = .ok (.istore_n 1, 1) := by decide +kernel
theorem dX6_copyLate_17 : decode cX6_copyLate 17 = .ok (.aload_n 0, 1) := by decide +kernel
theorem dX6_copyLate_18 : decode cX6_copyLate 18 = .ok (.iload_n 1, 1) := by decide +kernel
theorem dX6_copyLate_19 : decode cX6_copyLate 19 = .ok (.iconst 1, 1) := by decide +kernel
theorem dX6_copyLate_20 : decode cX6_copyLate 20 = .ok (.invokevirtual 66, 3) := by decide +kernel
theorem dX6_copyLate_23 : decode cX6_copyLate 23 = .ok (.ifCond .eq 35, 3) := by decide +kernel
theorem dX6_copyLate_26 : decode cX6_copyLate 26 = .ok (.aload_n 0, 1) := by decide +kernel
theorem dX6_copyLate_27 : decode cX6_copyLate 27 = .ok (.sipush 9999, 3) := by decide +kernel
theorem dX6_copyLate_30 : decode cX6_copyLate 30 = .ok (.invokevirtual 86, 3) := by decide +kernel
theorem dX6_copyLate_33 : decode cX6_copyLate 33 = .ok (.ifCond .eq 25, 3) := by decide +kernel
theorem dX6_copyLate_36 : decode cX6_copyLate 36 = .ok (.aload_n 0, 1) := by decide +kernel
theorem dX6_copyLate_37 : decode cX6_copyLate 37 = .ok (.iconst 3, 1) := by decide +kernel
theorem dX6_copyLate_38 : decode cX6_copyLate 38 = .ok (.invokevirtual 70, 3) := by decide +kernel
theorem dX6_copyLate_41 : decode cX6_copyLate 41 = .ok (.ifCond .eq 17, 3) := by decide +kernel
theorem dX6_copyLate_44 : decode cX6_copyLate 44 = .ok (.aload_n 0, 1) := by decide +kernel
theorem dX6_copyLate_45 : decode cX6_copyLate 45 = .ok (.getfield 21, 3) := by decide +kernel
theorem dX6_copyLate_48 : decode cX6_copyLate 48 = .ok (.aload_n 0, 1) := by decide +kernel
theorem dX6_copyLate_49 : decode cX6_copyLate 49 = .ok (.getfield 12, 3) := by decide +kernel
theorem dX6_copyLate_52 : decode cX6_copyLate 52 = .ok (.getfield 89, 3) := by decide +kernel
theorem dX6_copyLate_55 : decode cX6_copyLate 55 = .ok (.putfield 134, 3) := by decide +kernel
theorem dX6_copyLate_58 : decode cX6_copyLate 58 = .ok (.return_, 1) := by decide +kernel
theorem dX6_roomFor_0 : decode cX6_roomFor 0 = .ok (.iload_n 1, 1) := by decide +kernel
theorem dX6_roomFor_1 : decode cX6_roomFor 1 = .ok (.iload_n 2, 1) := by decide +kernel
theorem dX6_roomFor_2 : decode cX6_roomFor 2 = .ok (.if_icmp .lt 8, 3) := by decide +kernel
theorem dX6_roomFor_5 : decode cX6_roomFor 5 = .ok (.aload_n 0, 1) := by decide +kernel
theorem dX6_roomFor_6 : decode cX6_roomFor 6 = .ok (.iconst 2, 1) := by decide +kernel
theorem dX6_roomFor_7 : decode cX6_roomFor 7 = .ok (.invokevirtual 82, 3) := by decide +kernel
theorem dX6_roomFor_10 : decode cX6_roomFor 10 = .ok (.iload_n 1, 1) := by decide +kernel
theorem dX6_roomFor_11 : decode cX6_roomFor 11 = .ok (.iload_n 2, 1) := by decide +kernel
theorem dX6_roomFor_12 : decode cX6_roomFor 12 = .ok (.if_icmp .ge 7, 3) := by decide +kernel
theorem dX6_roomFor_15 : decode cX6_roomFor 15 = .ok (.iconst 1, 1) := by decide +kernel
theorem dX6_roomFor_16 : decode cX6_roomFor 16 = .ok (.goto 4, 3) := by decide +kernel
theorem dX6_roomFor_19 : decode cX6_roomFor 19 = .ok (.iconst 0, 1) := by decide +kernel
theorem dX6_roomFor_20 : decode cX6_roomFor 20 = .ok (.ireturn, 1) := by decide +kernel
theorem dX6_take_0 : decode cX6_take 0 = .ok (.aload_n 0, 1) := by decide +kernel
theorem dX6_take_1 : decode cX6_take 1 = .ok (.getfield 12, 3) := by decide +kernel
theorem dX6_take_4 : decode cX6_take 4 = .ok (.invokevirtual 39, 3) := by decide +kernel
theorem dX6_take_7 : decode cX6_take 7 = .ok (.aload_n 0, 1) := by decide +kernel
theorem dX6_take_8 : decode cX6_take 8 = .ok (.getfield 12, 3) := by decide +kernel
theorem dX6_take_11 : decode cX6_take 11 = .ok (.getfield 42, 3) := by decide +kernel
theorem dX6_take_14 : decode cX6_take 14 = .ok (.iload_n 1, 1) := by decide +kernel
theorem dX6_take_15 : decode cX6_take 15 = .ok (.if_icmp .eq 7, 3) := by decide +kernel
theorem dX6_take_18 : decode cX6_take 18 = .ok (.aload_n 0, 1) := by decide +kernel
theorem dX6_take_19 : decode cX6_take 19 = .ok (.invokevirtual 60, 3) := by decide +kernel
theorem dX6_take_22 : decode cX6_take 22 = .ok (.aload_n 0, 1) := by decide +kernel
theorem dX6_take_23 : decode cX6_take 23 = .ok (.getfield 12, 3) := by decide +kernel
theorem dX6_take_26 : decode cX6_take 26 = .ok (.getfield 42, 3) := by decide +kernel
theorem dX6_take_29 : decode cX6_take 29 = .ok (.iload_n 1, 1) := by decide +kernel
theorem dX6_take_30 : decode cX6_take 30 = .ok (.if_icmp .ne 7, 3) := by decide +kernel
theorem dX6_take_33 : decode cX6_take 33 = .ok (.iconst 1, 1) := by decide +kernel
theorem dX6_take_34 : decode cX6_take 34 = .ok (.goto 4, 3) := by decide +kernel
theorem dX6_take_37 : decode cX6_take 37 = .ok (.iconst 0, 1) := by decide +kernel
theorem dX6_take_38 : decode cX6_take 38 = .ok (.ireturn, 1) := by decide +kernel
theorem dX6_takeNumber_0 : decode cX6_takeNumber 0 = .ok (.aload_n 0, 1) := by decide +kernel
theorem dX6_takeNumber_1 : decode cX6_takeNumber 1 = .ok (.iconst 2, 1) := by decide +kernel
theorem dX6_takeNumber_2 : decode cX6_takeNumber 2 = .ok (.invokevirtual 70, 3) := by decide +kernel
theorem dX6_takeNumber_5 : decode cX6_takeNumber 5 = .ok (.ifCond .ne 5, 3) := by decide +kernel
theorem dX6_takeNumber_8 : decode cX6_takeNumber 8 = .ok (.iconst 0, 1) := by decide +kernel
theorem dX6_takeNumber_9 : decode cX6_takeNumber 9 = .ok (.ireturn, 1) := by decide +kernel
theorem dX6_takeNumber_10 : decode cX6_takeNumber 10 = .ok (.aload_n 0, 1) := by decide +kernel
theorem dX6_takeNumber_11 : decode cX6_takeNumber 11 = .ok (.getfield 12, 3) := by decide +kernel
theorem dX6_takeNumber_14 : decode cX6_takeNumber 14 = .ok (.getfield 89, 3) := by decide +kernel
theorem dX6_takeNumber_17 : decode cX6_takeNumber 17 = .ok (.iload_n 1, 1) := by decide +kernel
theorem dX6_takeNumber_18 : decode cX6_takeNumber 18 = .ok (.if_icmp .le 8, 3) := by decide +kernel
theorem dX6_takeNumber_21 : decode cX6_takeNumber 21 = .ok (.aload_n 0, 1) := by decide +kernel
theorem dX6_takeNumber_22 : decode cX6_takeNumber 22 = .ok (.iconst 4, 1) := by decide +kernel
theorem dX6_takeNumber_23 : decode cX6_takeNumber 23 = .ok (.invokevirtual 82, 3) := by decide +kernel
theorem dX6_takeNumber_26 : decode cX6_takeNumber 26 = .ok (.aload_n 0, 1) := by decide +kernel
theorem dX6_takeNumber_27 : decode cX6_takeNumber 27 = .ok (.getfield 12, 3) := by decide +kernel
theorem dX6_takeNumber_30 : decode cX6_takeNumber 30 = .ok (.getfield 89, 3) := by decide +kernel
theorem dX6_takeNumber_33 : decode cX6_takeNumber 33 = .ok (.iload_n 1, 1) := by decide +kernel
theorem dX6_takeNumber_34 : decode cX6_takeNumber 34 = .ok (.if_icmp .gt 7, 3) := by decide +kernel
theorem dX6_takeNumber_37 : decode cX6_takeNumber 37 = .ok (.iconst 1, 1) := by decide +kernel
theorem dX6_takeNumber_38 : decode cX6_takeNumber 38 = .ok (.goto 4, 3) := by decide +kernel
theorem dX6_takeNumber_41 : decode cX6_takeNumber 41 = .ok (.iconst 0, 1) := by decide +kernel
theorem dX6_takeNumber_42 : decode cX6_takeNumber 42 = .ok (.ireturn, 1) := by decide +kernel
theorem dX6_takeSmith_0 : decode cX6_takeSmith 0 = .ok (.aload_n 0, 1) := by decide +kernel
theorem dX6_takeSmith_1 : decode cX6_takeSmith 1 = .ok (.iconst 4, 1) := by decide +kernel
theorem dX6_takeSmith_2 : decode cX6_takeSmith 2 = .ok (.invokevirtual 70, 3) := by decide +kernel
theorem dX6_takeSmith_5 : decode cX6_takeSmith 5 = .ok (.ifCond .eq 10, 3) := by decide +kernel
theorem dX6_takeSmith_8 : decode cX6_takeSmith 8 = .ok (.aload_n 0, 1) := by decide +kernel
theorem dX6_takeSmith_9 : decode cX6_takeSmith 9 = .ok (.invokevirtual 137, 3) := by decide +kernel
theorem dX6_takeSmith_12 : decode cX6_takeSmith 12 = .ok (.goto 4, 3) := by decide +kernel
theorem dX6_takeSmith_15 : decode cX6_takeSmith 15 = .ok (.iconst (-1), 1) := by decide +kernel
theorem dX6_takeSmith_16 : decode cX6_takeSmith 16 = .ok (.ireturn, 1) := by decide +kernel
theorem dX6_takeMaster_0 : decode cX6_takeMaster 0 = .ok (.aload_n 0, 1) := by decide +kernel
theorem dX6_takeMaster_1 : decode cX6_takeMaster 1 = .ok (.iconst 4, 1) := by decide +kernel
theorem dX6_takeMaster_2 : decode cX6_takeMaster 2 = .ok (.invokevirtual 70, 3) := by decide +kernel
theorem dX6_takeMaster_5 : decode cX6_takeMaster 5 = .ok (.ifCond .eq 10, 3) := by decide +kernel
theorem dX6_takeMaster_8 : decode cX6_takeMaster 8 = .ok (.aload_n 0, 1) := by decide +kernel
theorem dX6_takeMaster_9 : decode cX6_takeMaster 9 = .ok (.invokevirtual 137, 3) := by decide +kernel
theorem dX6_takeMaster_12 : decode cX6_takeMaster 12 = .ok (.goto 4, 3) := by decide +kernel
theorem dX6_takeMaster_15 : decode cX6_takeMaster 15 = .ok (.iconst (-1), 1) := by decide +kernel
theorem dX6_takeMaster_16 : decode cX6_takeMaster 16 = .ok (.istore_n 1, 1) := by decide +kernel
theorem dX6_takeMaster_17 : decode cX6_takeMaster 17 = .ok (.iload_n 1, 1) := by decide +kernel
theorem dX6_takeMaster_18 : decode cX6_takeMaster 18 = .ok (.iconst (-1), 1) := by decide +kernel
theorem dX6_takeMaster_19 : decode cX6_takeMaster 19 = .ok (.if_icmp .eq 25, 3) := by decide +kernel
theorem dX6_takeMaster_22 : decode cX6_takeMaster 22 = .ok (.aload_n 0, 1) := by decide +kernel
theorem dX6_takeMaster_23 : decode cX6_takeMaster 23 = .ok (.getfield 21, 3) := by decide +kernel
theorem dX6_takeMaster_26 : decode cX6_takeMaster 26 = .ok (.getfield 140, 3) := by decide +kernel
theorem dX6_takeMaster_29 : decode cX6_takeMaster 29 = .ok (.iload_n 1, 1) := by decide +kernel
theorem dX6_takeMaster_30 : decode cX6_takeMaster 30 = .ok (.ishr, 1) := by decide +kernel
theorem dX6_takeMaster_31 : decode cX6_takeMaster 31 = .ok (.iconst 1, 1) := by decide +kernel
theorem dX6_takeMaster_32 : decode cX6_takeMaster 32 = .ok (.iand, 1) := by decide +kernel
theorem dX6_takeMaster_33 : decode cX6_takeMaster 33 = .ok (.ifCond .ne 11, 3) := by decide +kernel
theorem dX6_takeMaster_36 : decode cX6_takeMaster 36 = .ok (.aload_n 0, 1) := by decide +kernel
theorem dX6_takeMaster_37 : decode cX6_takeMaster 37 = .ok (.bipush 6, 2) := by decide +kernel
theorem dX6_takeMaster_39 : decode cX6_takeMaster 39 = .ok (.invokevirtual 82, 3) := by decide +kernel
theorem dX6_takeMaster_42 : decode cX6_takeMaster 42 = .ok (.iconst (-1), 1) := by decide +kernel
theorem dX6_takeMaster_43 : decode cX6_takeMaster 43 = .ok (.ireturn, 1) := by decide +kernel
theorem dX6_takeMaster_44 : decode cX6_takeMaster 44 = .ok (.iload_n 1, 1) := by decide +kernel
theorem dX6_takeMaster_45 : decode cX6_takeMaster 45 = .ok (.ireturn, 1) := by decide +kernel
theorem dX6_knownSmith_0 : decode cX6_knownSmith 0 = .ok (.aload_n 0, 1) := by decide +kernel
theorem dX6_knownSmith_1 : decode cX6_knownSmith 1 = .ok (.getfield 21, 3) := by decide +kernel
theorem dX6_knownSmith_4 : decode cX6_knownSmith 4 = .ok (.aload_n 0, 1) := by decide +kernel
theorem dX6_knownSmith_5 : decode cX6_knownSmith 5 = .ok (.getfield 12, 3) := by decide +kernel
theorem dX6_knownSmith_8 : decode cX6_knownSmith 8 = .ok (.getfield 74, 3) := by decide +kernel
theorem dX6_knownSmith_11 : decode cX6_knownSmith 11 = .ok (.invokevirtual 78, 3) := by decide +kernel
theorem dX6_knownSmith_14 : decode cX6_knownSmith 14 = .ok (.istore_n 1, 1) := by decide +kernel
theorem dX6_knownSmith_15 : decode cX6_knownSmith 15 = .ok (.iload_n 1, 1) := by decide +kernel
theorem dX6_knownSmith_16 : decode cX6_knownSmith 16 = .ok (.iconst (-1), 1) := by decide +kernel
theorem dX6_knownSmith_17 : decode cX6_knownSmith 17 = .ok (.if_icmp .ne 8, 3) := by decide +kernel
theorem dX6_knownSmith_20 : decode cX6_knownSmith 20 = .ok (.aload_n 0, 1) := by decide +kernel
theorem dX6_knownSmith_21 : decode cX6_knownSmith 21 = .ok (.iconst 5, 1) := by decide +kernel
theorem dX6_knownSmith_22 : decode cX6_knownSmith 22 = .ok (.invokevirtual 82, 3) := by decide +kernel
theorem dX6_knownSmith_25 : decode cX6_knownSmith 25 = .ok (.iload_n 1, 1) := by decide +kernel
theorem dX6_knownSmith_26 : decode cX6_knownSmith 26 = .ok (.ireturn, 1) := by decide +kernel
theorem dX6_refuseToken_0 : decode cX6_refuseToken 0 = .ok (.aload_n 0, 1) := by decide +kernel
theorem dX6_refuseToken_1 : decode cX6_refuseToken 1 = .ok (.getfield 12, 3) := by decide +kernel
theorem dX6_refuseToken_4 : decode cX6_refuseToken 4 = .ok (.getfield 42, 3) := by decide +kernel
theorem dX6_refuseToken_7 : decode cX6_refuseToken 7 = .ok (.ifCond .eq 14, 3) := by decide +kernel
theorem dX6_refuseToken_10 : decode cX6_refuseToken 10 = .ok (.aload_n 0, 1) := by decide +kernel
theorem dX6_refuseToken_11 : decode cX6_refuseToken 11 = .ok (.getfield 12, 3) := by decide +kernel
theorem dX6_refuseToken_14 : decode cX6_refuseToken 14 = .ok (.getfield 42, 3) := by decide +kernel
theorem dX6_refuseToken_17 : decode cX6_refuseToken 17 = .ok (.iconst 1, 1) := by decide +kernel
theorem dX6_refuseToken_18 : decode cX6_refuseToken 18 = .ok (.if_icmp .ne 7, 3) := by decide +kernel
theorem dX6_refuseToken_21 : decode cX6_refuseToken 21 = .ok (.iconst 1, 1) := by decide +kernel
theorem dX6_refuseToken_22 : decode cX6_refuseToken 22 = .ok (.goto 4, 3) := by decide +kernel
theorem dX6_refuseToken_25 : decode cX6_refuseToken 25 = .ok (.iconst 0, 1) := by decide +kernel
theorem dX6_refuseToken_26 : decode cX6_refuseToken 26 = .ok (.istore_n 1, 1) := by decide +kernel
theorem dX6_refuseToken_27 : decode cX6_refuseToken 27 = .ok (.aload_n 0, 1) := by decide +kernel
theorem dX6_refuseToken_28 : decode cX6_refuseToken 28 = .ok (.iload_n 1, 1) := by decide +kernel
theorem dX6_refuseToken_29 : decode cX6_refuseToken 29 = .ok (.ifCond .eq 7, 3) := by decide +kernel
theorem dX6_refuseToken_32 : decode cX6_refuseToken 32 = .ok (.iconst 1, 1) := by decide +kernel
theorem dX6_refuseToken_33 : decode cX6_refuseToken 33 = .ok (.goto 4, 3) := by decide +kernel
theorem dX6_refuseToken_36 : decode cX6_refuseToken 36 = .ok (.iconst 2, 1) := by decide +kernel
theorem dX6_refuseToken_37 : decode cX6_refuseToken 37 = .ok (.invokevirtual 82, 3) := by decide +kernel
theorem dX6_refuseToken_40 : decode cX6_refuseToken 40 = .ok (.return_, 1) := by decide +kernel
theorem dX6_refuse_0 : decode cX6_refuse 0 = .ok (.aload_n 0, 1) := by decide +kernel
theorem dX6_refuse_1 : decode cX6_refuse 1 = .ok (.getfield 25, 3) := by decide +kernel
theorem dX6_refuse_4 : decode cX6_refuse 4 = .ok (.ifCond .ne 19, 3) := by decide +kernel
theorem dX6_refuse_7 : decode cX6_refuse 7 = .ok (.aload_n 0, 1) := by decide +kernel
theorem dX6_refuse_8 : decode cX6_refuse 8 = .ok (.iload_n 1, 1) := by decide +kernel
theorem dX6_refuse_9 : decode cX6_refuse 9 = .ok (.putfield 25, 3) := by decide +kernel
theorem dX6_refuse_12 : decode cX6_refuse 12 = .ok (.aload_n 0, 1) := by decide +kernel
theorem dX6_refuse_13 : decode cX6_refuse 13 = .ok (.aload_n 0, 1) := by decide +kernel
theorem dX6_refuse_14 : decode cX6_refuse 14 = .ok (.getfield 12, 3) := by decide +kernel
theorem dX6_refuse_17 : decode cX6_refuse 17 = .ok (.getfield 143, 3) := by decide +kernel
theorem dX6_refuse_20 : decode cX6_refuse 20 = .ok (.putfield 29, 3) := by decide +kernel
theorem dX6_refuse_23 : decode cX6_refuse 23 = .ok (.return_, 1) := by decide +kernel
theorem dX7_init_0 : decode cX7_init 0 = .ok (.aload_n 0, 1) := by decide +kernel
theorem dX7_init_1 : decode cX7_init 1 = .ok (.invokespecial 3, 3) := by decide +kernel
theorem dX7_init_4 : decode cX7_init 4 = .ok (.aload_n 0, 1) := by decide +kernel
theorem dX7_init_5 : decode cX7_init 5 = .ok (.iload_n 1, 1) := by decide +kernel
theorem dX7_init_6 : decode cX7_init 6 = .ok (.iconst 1, 1) := by decide +kernel
theorem dX7_init_7 : decode cX7_init 7 = .ok (.invokestatic 9, 3) := by decide +kernel
theorem dX7_init_10 : decode cX7_init 10 = .ok (.putfield 15, 3) := by decide +kernel
theorem dX7_init_13 : decode cX7_init 13 = .ok (.aload_n 0, 1) := by decide +kernel
theorem dX7_init_14 : decode cX7_init 14 = .ok (.aload_n 0, 1) := by decide +kernel
theorem dX7_init_15 : decode cX7_init 15 = .ok (.getfield 15, 3) := by decide +kernel
theorem dX7_init_18 : decode cX7_init 18 = .ok (.bipush 80, 2) := by decide +kernel
theorem dX7_init_20 : decode cX7_init 20 = .ok (.imul, 1) := by decide +kernel
theorem dX7_init_21 : decode cX7_init 21 = .ok (.newarray .int, 2) := by decide +kernel
theorem dX7_init_23 : decode cX7_init 23 = .ok (.putfield 21, 3) := by decide +kernel
theorem dX7_init_26 : decode cX7_init 26 = .ok (.aload_n 0, 1) := by decide +kernel
theorem dX7_init_27 : decode cX7_init 27 = .ok (.aload_n 0, 1) := by decide +kernel
theorem dX7_init_28 : decode cX7_init 28 = .ok (.getfield 15, 3) := by decide +kernel
theorem dX7_init_31 : decode cX7_init 31 = .ok (.newarray .int, 2) := by decide +kernel
theorem dX7_init_33 : decode cX7_init 33 = .ok (.putfield 25, 3) := by decide +kernel
theorem dX7_init_36 : decode cX7_init 36 = .ok (.aload_n 0, 1) := by decide +kernel
theorem dX7_init_37 : decode cX7_init 37 = .ok (.invokevirtual 28, 3) := by decide +kernel
theorem dX7_init_40 : decode cX7_init 40 = .ok (.return_, 1) := by decide +kernel
theorem dX7_empty_0 : decode cX7_empty 0 = .ok (.aload_n 0, 1) := by decide +kernel
theorem dX7_empty_1 : decode cX7_empty 1 = .ok (.getfield 25, 3) := by decide +kernel
theorem dX7_empty_4 : decode cX7_empty 4 = .ok (.iconst (-1), 1) := by decide +kernel
theorem dX7_empty_5 : decode cX7_empty 5 = .ok (.invokestatic 31, 3) := by decide +kernel
theorem dX7_empty_8 : decode cX7_empty 8 = .ok (.return_, 1) := by decide +kernel
theorem dX7_keep_0 : decode cX7_keep 0 = .ok (.iload_n 1, 1) := by decide +kernel
theorem dX7_keep_1 : decode cX7_keep 1 = .ok (.ifCond .lt 39, 3) := by decide +kernel
theorem dX7_keep_4 : decode cX7_keep 4 = .ok (.iload_n 1, 1) := by decide +kernel
theorem dX7_keep_5 : decode cX7_keep 5 = .ok (.aload_n 0, 1) := by decide +kernel
theorem dX7_keep_6 : decode cX7_keep 6 = .ok (.getfield 15, 3) := by decide +kernel
theorem dX7_keep_9 : decode cX7_keep 9 = .ok (.if_icmp .ge 31, 3) := by decide +kernel
theorem dX7_keep_12 : decode cX7_keep 12 = .ok (.aload_n 2, 1) := by decide +kernel
theorem dX7_keep_13 : decode cX7_keep 13 = .ok (.getfield 37, 3) := by decide +kernel
theorem dX7_keep_16 : decode cX7_keep 16 = .ok (.iconst 0, 1) := by decide +kernel
theorem dX7_keep_17 : decode cX7_keep 17 = .ok (.aload_n 0, 1) := by decide +kernel
theorem dX7_keep_18 : decode cX7_keep 18 = .ok (.getfield 21, 3) := by decide +kernel
theorem dX7_keep_21 : decode cX7_keep 21 = .ok (.iload_n 1, 1) := by decide +kernel
theorem dX7_keep_22 : decode cX7_keep 22 = .ok (.bipush 80, 2) := by decide +kernel
theorem dX7_keep_24 : decode cX7_keep 24 = .ok (.imul, 1) := by decide +kernel
theorem dX7_keep_25 : decode cX7_keep 25 = .ok (.bipush 80, 2) := by decide +kernel
theorem dX7_keep_27 : decode cX7_keep 27 = .ok (.invokestatic 40, 3) := by decide +kernel
theorem dX7_keep_30 : decode cX7_keep 30 = .ok (.aload_n 0, 1) := by decide +kernel
theorem dX7_keep_31 : decode cX7_keep 31 = .ok (.getfield 25, 3) := by decide +kernel
theorem dX7_keep_34 : decode cX7_keep 34 = .ok (.iload_n 1, 1) := by decide +kernel
theorem dX7_keep_35 : decode cX7_keep 35 = .ok (.aload_n 2, 1) := by decide +kernel
theorem dX7_keep_36 : decode cX7_keep 36 = .ok (.getfield 46, 3) := by decide +kernel
theorem dX7_keep_39 : decode cX7_keep 39 = .ok (.iastore, 1) := by decide +kernel
theorem dX7_keep_40 : decode cX7_keep 40 = .ok (.return_, 1) := by decide +kernel
theorem dX7_fetch_0 : decode cX7_fetch 0 = .ok (.iload_n 1, 1) := by decide +kernel
theorem dX7_fetch_1 : decode cX7_fetch 1 = .ok (.ifCond .lt 21, 3) := by decide +kernel
theorem dX7_fetch_4 : decode cX7_fetch 4 = .ok (.iload_n 1, 1) := by decide +kernel
theorem dX7_fetch_5 : decode cX7_fetch 5 = .ok (.aload_n 0, 1) := by decide +kernel
theorem dX7_fetch_6 : decode cX7_fetch 6 = .ok (.getfield 15, 3) := by decide +kernel
theorem dX7_fetch_9 : decode cX7_fetch 9 = .ok (.if_icmp .ge 13, 3) := by decide +kernel
theorem dX7_fetch_12 : decode cX7_fetch 12 = .ok (.aload_n 0, 1) := by decide +kernel
theorem dX7_fetch_13 : decode cX7_fetch 13 = .ok (.getfield 25, 3) := by decide +kernel
theorem dX7_fetch_16 : decode cX7_fetch 16 = .ok (.iload_n 1, 1) := by decide +kernel
theorem dX7_fetch_17 : decode cX7_fetch 17 = .ok (.iaload, 1) := by decide +kernel
theorem dX7_fetch_18 : decode cX7_fetch 18 = .ok (.iconst (-1), 1) := by decide +kernel
theorem dX7_fetch_19 : decode cX7_fetch 19 = .ok (.if_icmp .ne 5, 3) := by decide +kernel
theorem dX7_fetch_22 : decode cX7_fetch 22 = .ok (.iconst 0, 1) := by decide +kernel
theorem dX7_fetch_23 : decode cX7_fetch 23 = .ok (.ireturn, 1) := by decide +kernel
theorem dX7_fetch_24 : decode cX7_fetch 24 = .ok (.aload_n 0, 1) := by decide +kernel
theorem dX7_fetch_25 : decode cX7_fetch 25 = .ok (.getfield 21, 3) := by decide +kernel
theorem dX7_fetch_28 : decode cX7_fetch 28 = .ok (.iload_n 1, 1) := by decide +kernel
theorem dX7_fetch_29 : decode cX7_fetch 29 = .ok (.bipush 80, 2) := by decide +kernel
theorem dX7_fetch_31 : decode cX7_fetch 31 = .ok (.imul, 1) := by decide +kernel
theorem dX7_fetch_32 : decode cX7_fetch 32 = .ok (.aload_n 2, 1) := by decide +kernel
theorem dX7_fetch_33 : decode cX7_fetch 33 = .ok (.getfield 37, 3) := by decide +kernel
theorem dX7_fetch_36 : decode cX7_fetch 36 = .ok (.iconst 0, 1) := by decide +kernel
theorem dX7_fetch_37 : decode cX7_fetch 37 = .ok (.bipush 80, 2) := by decide +kernel
theorem dX7_fetch_39 : decode cX7_fetch 39 = .ok (.invokestatic 40, 3) := by decide +kernel
theorem dX7_fetch_42 : decode cX7_fetch 42 = .ok (.aload_n 2, 1) := by decide +kernel
theorem dX7_fetch_43 : decode cX7_fetch 43 = .ok (.aload_n 0, 1) := by decide +kernel
theorem dX7_fetch_44 : decode cX7_fetch 44 = .ok (.getfield 25, 3) := by decide +kernel
theorem dX7_fetch_47 : decode cX7_fetch 47 = .ok (.iload_n 1, 1) := by decide +kernel
theorem dX7_fetch_48 : decode cX7_fetch 48 = .ok (.iaload, 1) := by decide +kernel
theorem dX7_fetch_49 : decode cX7_fetch 49 = .ok (.putfield 46, 3) := by decide +kernel
theorem dX7_fetch_52 : decode cX7_fetch 52 = .ok (.iconst 1, 1) := by decide +kernel
theorem dX7_fetch_53 : decode cX7_fetch 53 = .ok (.ireturn, 1) := by decide +kernel
theorem dX8_init_0 : decode cX8_init 0 = .ok (.aload_n 0, 1) := by decide +kernel
theorem dX8_init_1 : decode cX8_init 1 = .ok (.invokespecial 3, 3) := by decide +kernel
theorem dX8_init_4 : decode cX8_init 4 = .ok (.aload_n 0, 1) := by decide +kernel
theorem dX8_init_5 : decode cX8_init 5 = .ok (.bipush 20, 2) := by decide +kernel
theorem dX8_init_7 : decode cX8_init 7 = .ok (.newarray .int, 2) := by decide +kernel
theorem dX8_init_9 : decode cX8_init 9 = .ok (.putfield 11, 3) := by decide +kernel
theorem dX8_init_12 : decode cX8_init 12 = .ok (.aload_n 0, 1) := by decide +kernel
theorem dX8_init_13 : decode cX8_init 13 = .ok (.bipush 20, 2) := by decide +kernel
theorem dX8_init_15 : decode cX8_init 15 = .ok (.newarray .int, 2) := by decide +kernel
theorem dX8_init_17 : decode cX8_init 17 = .ok (.putfield 15, 3) := by decide +kernel
theorem dX8_init_20 : decode cX8_init 20 = .ok (.aload_n 0, 1) := by decide +kernel
theorem dX8_init_21 : decode cX8_init 21 = .ok (.bipush 20, 2) := by decide +kernel
theorem dX8_init_23 : decode cX8_init 23 = .ok (.newarray .int, 2) := by decide +kernel
theorem dX8_init_25 : decode cX8_init 25 = .ok (.putfield 18, 3) := by decide +kernel
theorem dX8_init_28 : decode cX8_init 28 = .ok (.aload_n 0, 1) := by decide +kernel
theorem dX8_init_29 : decode cX8_init 29 = .ok (.bipush 20, 2) := by decide +kernel
theorem dX8_init_31 : decode cX8_init 31 = .ok (.newarray .int, 2) := by decide +kernel
theorem dX8_init_33 : decode cX8_init 33 = .ok (.putfield 21, 3) := by decide +kernel
theorem dX8_init_36 : decode cX8_init 36 = .ok (.aload_n 0, 1) := by decide +kernel
theorem dX8_init_37 : decode cX8_init 37 = .ok (.bipush 20, 2) := by decide +kernel
theorem dX8_init_39 : decode cX8_init 39 = .ok (.newarray .int, 2) := by decide +kernel
theorem dX8_init_41 : decode cX8_init 41 = .ok (.putfield 24, 3) := by decide +kernel
theorem dX8_init_44 : decode cX8_init 44 = .ok (.aload_n 0, 1) := by decide +kernel
theorem dX8_init_45 : decode cX8_init 45 = .ok (.bipush 80, 2) := by decide +kernel
theorem dX8_init_47 : decode cX8_init 47 = .ok (.newarray .int, 2) := by decide +kernel
theorem dX8_init_49 : decode cX8_init 49 = .ok (.putfield 27, 3) := by decide +kernel
theorem dX8_init_52 : decode cX8_init 52 = .ok (.aload_n 0, 1) := by decide +kernel
theorem dX8_init_53 : decode cX8_init 53 = .ok (.bipush 80, 2) := by decide +kernel
theorem dX8_init_55 : decode cX8_init 55 = .ok (.newarray .int, 2) := by decide +kernel
theorem dX8_init_57 : decode cX8_init 57 = .ok (.putfield 30, 3) := by decide +kernel
theorem dX8_init_60 : decode cX8_init 60 = .ok (.aload_n 0, 1) := by decide +kernel
theorem dX8_init_61 : decode cX8_init 61 = .ok (.bipush 80, 2) := by decide +kernel
theorem dX8_init_63 : decode cX8_init 63 = .ok (.newarray .long, 2) := by decide +kernel
theorem dX8_init_65 : decode cX8_init 65 = .ok (.putfield 33, 3) := by decide +kernel
theorem dX8_init_68 : decode cX8_init 68 = .ok (.aload_n 0, 1) := by decide +kernel
theorem dX8_init_69 : decode cX8_init 69 = .ok (.iconst 0, 1) := by decide +kernel
theorem dX8_init_70 : decode cX8_init 70 = .ok (.putfield 37, 3) := by decide +kernel
theorem dX8_init_73 : decode cX8_init 73 = .ok (.aload_n 0, 1) := by decide +kernel
theorem dX8_init_74 : decode cX8_init 74 = .ok (.getfield 30, 3) := by decide +kernel
theorem dX8_init_77 : decode cX8_init 77 = .ok (.iconst (-1), 1) := by decide +kernel
theorem dX8_init_78 : decode cX8_init 78 = .ok (.invokestatic 41, 3) := by decide +kernel
theorem dX8_init_81 : decode cX8_init 81 = .ok (.return_, 1) := by decide +kernel
theorem dX8_forget_0 : decode cX8_forget 0 = .ok (.aload_n 0, 1) := by decide +kernel
theorem dX8_forget_1 : decode cX8_forget 1 = .ok (.iconst 0, 1) := by decide +kernel
theorem dX8_forget_2 : decode cX8_forget 2 = .ok (.putfield 37, 3) := by decide +kernel
theorem dX8_forget_5 : decode cX8_forget 5 = .ok (.aload_n 0, 1) := by decide +kernel
theorem dX8_forget_6 : decode cX8_forget 6 = .ok (.getfield 30, 3) := by decide +kernel
theorem dX8_forget_9 : decode cX8_forget 9 = .ok (.iconst (-1), 1) := by decide +kernel
theorem dX8_forget_10 : decode cX8_forget 10 = .ok (.invokestatic 41, 3) := by decide +kernel
theorem dX8_forget_13 : decode cX8_forget 13 = .ok (.return_, 1) := by decide +kernel
theorem dX8_tell_0 : decode cX8_tell 0 = .ok (.aload_n 0, 1) := by decide +kernel
theorem dX8_tell_1 : decode cX8_tell 1 = .ok (.getfield 37, 3) := by decide +kernel
theorem dX8_tell_4 : decode cX8_tell 4 = .ok (.bipush 20, 2) := by decide +kernel
theorem dX8_tell_6 : decode cX8_tell 6 = .ok (.if_icmp .lt 5, 3) := by decide +kernel
theorem dX8_tell_9 : decode cX8_tell 9 = .ok (.iconst (-1), 1) := by decide +kernel
theorem dX8_tell_10 : decode cX8_tell 10 = .ok (.ireturn, 1) := by decide +kernel
theorem dX8_tell_11 : decode cX8_tell 11 = .ok (.aload_n 0, 1) := by decide +kernel
theorem dX8_tell_12 : decode cX8_tell 12 = .ok (.getfield 11, 3) := by decide +kernel
theorem dX8_tell_15 : decode cX8_tell 15 = .ok (.aload_n 0, 1) := by decide +kernel
theorem dX8_tell_16 : decode cX8_tell 16 = .ok (.getfield 37, 3) := by decide +kernel
theorem dX8_tell_19 : decode cX8_tell 19 = .ok (.iload_n 1, 1) := by decide +kernel
theorem dX8_tell_20 : decode cX8_tell 20 = .ok (.iastore, 1) := by decide +kernel
theorem dX8_tell_21 : decode cX8_tell 21 = .ok (.aload_n 0, 1) := by decide +kernel
theorem dX8_tell_22 : decode cX8_tell 22 = .ok (.getfield 15, 3) := by decide +kernel
theorem dX8_tell_25 : decode cX8_tell 25 = .ok (.aload_n 0, 1) := by decide +kernel
theorem dX8_tell_26 : decode cX8_tell 26 = .ok (.getfield 37, 3) := by decide +kernel
theorem dX8_tell_29 : decode cX8_tell 29 = .ok (.iload_n 2, 1) := by decide +kernel
theorem dX8_tell_30 : decode cX8_tell 30 = .ok (.iastore, 1) := by decide +kernel
theorem dX8_tell_31 : decode cX8_tell 31 = .ok (.aload_n 0, 1) := by decide +kernel
theorem dX8_tell_32 : decode cX8_tell 32 = .ok (.getfield 18, 3) := by decide +kernel
theorem dX8_tell_35 : decode cX8_tell 35 = .ok (.aload_n 0, 1) := by decide +kernel
theorem dX8_tell_36 : decode cX8_tell 36 = .ok (.getfield 37, 3) := by decide +kernel
theorem dX8_tell_39 : decode cX8_tell 39 = .ok (.iload_n 3, 1) := by decide +kernel
theorem dX8_tell_40 : decode cX8_tell 40 = .ok (.iastore, 1) := by decide +kernel
theorem dX8_tell_41 : decode cX8_tell 41 = .ok (.aload_n 0, 1) := by decide +kernel
theorem dX8_tell_42 : decode cX8_tell 42 = .ok (.getfield 21, 3) := by decide +kernel
theorem dX8_tell_45 : decode cX8_tell 45 = .ok (.aload_n 0, 1) := by decide +kernel
theorem dX8_tell_46 : decode cX8_tell 46 = .ok (.getfield 37, 3) := by decide +kernel
theorem dX8_tell_49 : decode cX8_tell 49 = .ok (.iload 4, 2) := by decide +kernel
theorem dX8_tell_51 : decode cX8_tell 51 = .ok (.iastore, 1) := by decide +kernel
theorem dX8_tell_52 : decode cX8_tell 52 = .ok (.aload_n 0, 1) := by decide +kernel
theorem dX8_tell_53 : decode cX8_tell 53 = .ok (.getfield 24, 3) := by decide +kernel
theorem dX8_tell_56 : decode cX8_tell 56 = .ok (.aload_n 0, 1) := by decide +kernel
theorem dX8_tell_57 : decode cX8_tell 57 = .ok (.getfield 37, 3) := by decide +kernel
theorem dX8_tell_60 : decode cX8_tell 60 = .ok (.iconst (-1), 1) := by decide +kernel
theorem dX8_tell_61 : decode cX8_tell 61 = .ok (.iastore, 1) := by decide +kernel
theorem dX8_tell_62 : decode cX8_tell 62 = .ok (.aload_n 0, 1) := by decide +kernel
theorem dX8_tell_63 : decode cX8_tell 63 = .ok (.dup, 1) := by decide +kernel
theorem dX8_tell_64 : decode cX8_tell 64 = .ok (.getfield 37, 3) := by decide +kernel
theorem dX8_tell_67 : decode cX8_tell 67 = .ok (.iconst 1, 1) := by decide +kernel
theorem dX8_tell_68 : decode cX8_tell 68 = .ok (.iadd, 1) := by decide +kernel
theorem dX8_tell_69 : decode cX8_tell 69 = .ok (.putfield 37, 3) := by decide +kernel
theorem dX8_tell_72 : decode cX8_tell 72 = .ok (.aload_n 0, 1) := by decide +kernel
theorem dX8_tell_73 : decode cX8_tell 73 = .ok (.getfield 37, 3) := by decide +kernel
theorem dX8_tell_76 : decode cX8_tell 76 = .ok (.iconst 1, 1) := by decide +kernel
theorem dX8_tell_77 : decode cX8_tell 77 = .ok (.isub, 1) := by decide +kernel
theorem dX8_tell_78 : decode cX8_tell 78 = .ok (.ireturn, 1) := by decide +kernel
theorem dX8_takeBack_0 : decode cX8_takeBack 0 = .ok (.iload_n 1, 1) := by decide +kernel
theorem dX8_takeBack_1 : decode cX8_takeBack 1 = .ok (.ifCond .lt 21, 3) := by decide +kernel
theorem dX8_takeBack_4 : decode cX8_takeBack 4 = .ok (.iload_n 1, 1) := by decide +kernel
theorem dX8_takeBack_5 : decode cX8_takeBack 5 = .ok (.aload_n 0, 1) := by decide +kernel
theorem dX8_takeBack_6 : decode cX8_takeBack 6 = .ok (.getfield 37, 3) := by decide +kernel
theorem dX8_takeBack_9 : decode cX8_takeBack 9 = .ok (.if_icmp .ge 13, 3) := by decide +kernel
theorem dX8_takeBack_12 : decode cX8_takeBack 12 = .ok (.aload_n 0, 1) := by decide +kernel
theorem dX8_takeBack_13 : decode cX8_takeBack 13 = .ok (.getfield 24, 3) := by decide +kernel
theorem dX8_takeBack_16 : decode cX8_takeBack 16 = .ok (.iload_n 1, 1) := by decide +kernel
theorem dX8_takeBack_17 : decode cX8_takeBack 17 = .ok (.iaload, 1) := by decide +kernel
theorem dX8_takeBack_18 : decode cX8_takeBack 18 = .ok (.iconst (-1), 1) := by decide +kernel
theorem dX8_takeBack_19 : decode cX8_takeBack 19 = .ok (.if_icmp .eq 5, 3) := by decide +kernel
theorem dX8_takeBack_22 : decode cX8_takeBack 22 = .ok (.iconst 0, 1) := by decide +kernel
theorem dX8_takeBack_23 : decode cX8_takeBack 23 = .ok (.ireturn, 1) := by decide +kernel
theorem dX8_takeBack_24 : decode cX8_takeBack 24 = .ok (.aload_n 0, 1) := by decide +kernel
theorem dX8_takeBack_25 : decode cX8_takeBack 25 = .ok (.getfield 24, 3) := by decide +kernel
theorem dX8_takeBack_28 : decode cX8_takeBack 28 = .ok (.iload_n 1, 1) := by decide +kernel
theorem dX8_takeBack_29 : decode cX8_takeBack 29 = .ok (.iload_n 2, 1) := by decide +kernel
theorem dX8_takeBack_30 : decode cX8_takeBack 30 = .ok (.iastore, 1) := by decide +kernel
theorem dX8_takeBack_31 : decode cX8_takeBack 31 = .ok (.iconst 1, 1) := by decide +kernel
theorem dX8_takeBack_32 : decode cX8_takeBack 32 = .ok (.ireturn, 1) := by decide +kernel
theorem dX8_countingAt_0 : decode cX8_countingAt 0 = .ok (.iconst 0, 1) := by decide +kernel
theorem dX8_countingAt_1 : decode cX8_countingAt 1 = .ok (.istore_n 2, 1) := by decide +kernel
theorem dX8_countingAt_2 : decode cX8_countingAt 2 = .ok (.iconst 0, 1) := by decide +kernel
theorem dX8_countingAt_3 : decode cX8_countingAt 3 = .ok (.istore_n 3, 1) := by decide +kernel
theorem dX8_countingAt_4 : decode cX8_countingAt 4 = .ok (.iload_n 3, 1) := by decide +kernel
theorem dX8_countingAt_5 : decode cX8_countingAt 5 = .ok (.aload_n 0, 1) := by decide +kernel
theorem dX8_countingAt_6 : decode cX8_countingAt 6 = .ok (.getfield 37, 3) := by decide +kernel
theorem dX8_countingAt_9 : decode cX8_countingAt 9 = .ok (.if_icmp .ge 57, 3) := by decide +kernel
theorem dX8_countingAt_12 : decode cX8_countingAt 12 = .ok (.aload_n 0, 1) := by decide +kernel
theorem dX8_countingAt_13 : decode cX8_countingAt 13 = .ok (.getfield 24, 3) := by decide +kernel
theorem dX8_countingAt_16 : decode cX8_countingAt 16 = .ok (.iload_n 3, 1) := by decide +kernel
theorem dX8_countingAt_17 : decode cX8_countingAt 17 = .ok (.iaload, 1) := by decide +kernel
theorem dX8_countingAt_18 : decode cX8_countingAt 18 = .ok (.iconst (-1), 1) := by decide +kernel
theorem dX8_countingAt_19 : decode cX8_countingAt 19 = .ok (.if_icmp .eq 17, 3) := by decide +kernel
theorem dX8_countingAt_22 : decode cX8_countingAt 22 = .ok (.aload_n 0, 1) := by decide +kernel
theorem dX8_countingAt_23 : decode cX8_countingAt 23 = .ok (.getfield 24, 3) := by decide +kernel
theorem dX8_countingAt_26 : decode cX8_countingAt 26 = .ok (.iload_n 3, 1) := by decide +kernel
theorem dX8_countingAt_27 : decode cX8_countingAt 27 = .ok (.iaload, 1) := by decide +kernel
theorem dX8_countingAt_28 : decode cX8_countingAt 28 = .ok (.iload_n 1, 1) := by decide +kernel
theorem dX8_countingAt_29 : decode cX8_countingAt 29 = .ok (.if_icmp .gt 7, 3) := by decide +kernel
theorem dX8_countingAt_32 : decode cX8_countingAt 32 = .ok (.iconst 1, 1) := by decide +kernel
theorem dX8_countingAt_33 : decode cX8_countingAt 33 = .ok (.goto 4, 3) := by decide +kernel
theorem dX8_countingAt_36 : decode cX8_countingAt 36 = .ok (.iconst 0, 1) := by decide +kernel
theorem dX8_countingAt_37 : decode cX8_countingAt 37 = .ok (.istore 4, 2) := by decide +kernel
theorem dX8_countingAt_39 : decode cX8_countingAt 39 = .ok (.aload_n 0, 1) := by decide +kernel
theorem dX8_countingAt_40 : decode cX8_countingAt 40 = .ok (.getfield 21, 3) := by decide +kernel
theorem dX8_countingAt_43 : decode cX8_countingAt 43 = .ok (.iload_n 3, 1) := by decide +kernel
theorem dX8_countingAt_44 : decode cX8_countingAt 44 = .ok (.iaload, 1) := by decide +kernel
theorem dX8_countingAt_45 : decode cX8_countingAt 45 = .ok (.iload_n 1, 1) := by decide +kernel
theorem dX8_countingAt_46 : decode cX8_countingAt 46 = .ok (.if_icmp .gt 14, 3) := by decide +kernel
theorem dX8_countingAt_49 : decode cX8_countingAt 49 = .ok (.iload 4, 2) := by decide +kernel
theorem dX8_countingAt_51 : decode cX8_countingAt 51 = .ok (.ifCond .ne 9, 3) := by decide +kernel
theorem dX8_countingAt_54 : decode cX8_countingAt 54 = .ok (.iload_n 2, 1) := by decide +kernel
theorem dX8_countingAt_55 : decode cX8_countingAt 55 = .ok (.iconst 1, 1) := by decide +kernel
theorem dX8_countingAt_56 : decode cX8_countingAt 56 = .ok (.iload_n 3, 1) := by decide +kernel
theorem dX8_countingAt_57 : decode cX8_countingAt 57 = .ok (.ishl, 1) := by decide +kernel
theorem dX8_countingAt_58 : decode cX8_countingAt 58 = .ok (.ior, 1) := by decide +kernel
theorem dX8_countingAt_59 : decode cX8_countingAt 59 = .ok (.istore_n 2, 1) := by decide +kernel
theorem dX8_countingAt_60 : decode cX8_countingAt 60 = .ok (.iinc 3 1, 3) := by decide +kernel
theorem dX8_countingAt_63 : decode cX8_countingAt 63 = .ok (.goto (-59), 3) := by decide +kernel
theorem dX8_countingAt_66 : decode cX8_countingAt 66 = .ok (.iload_n 2, 1) := by decide +kernel
theorem dX8_countingAt_67 : decode cX8_countingAt 67 = .ok (.ireturn, 1) := by decide +kernel
theorem dX8_areSo_0 : decode cX8_areSo 0 = .ok (.iconst (-1), 1) := by decide +kernel
theorem dX8_areSo_1 : decode cX8_areSo 1 = .ok (.istore_n 3, 1) := by decide +kernel
theorem dX8_areSo_2 : decode cX8_areSo 2 = .ok (.iload_n 1, 1) := by decide +kernel
theorem dX8_areSo_3 : decode cX8_areSo 3 = .ok (.istore 4, 2) := by decide +kernel
theorem dX8_areSo_5 : decode cX8_areSo 5 = .ok (.iload 4, 2) := by decide +kernel
theorem dX8_areSo_7 : decode cX8_areSo 7 = .ok (.ifCond .eq 64, 3) := by decide +kernel
theorem dX8_areSo_10 : decode cX8_areSo 10 = .ok (.iload 4, 2) := by decide +kernel
theorem dX8_areSo_12 : decode cX8_areSo 12 = .ok (.invokestatic 47, 3) := by decide +kernel
theorem dX8_areSo_15 : decode cX8_areSo 15 = .ok (.istore 5, 2) := by decide +kernel
theorem dX8_areSo_17 : decode cX8_areSo 17 = .ok (.aload_n 0, 1) := by decide +kernel
theorem dX8_areSo_18 : decode cX8_areSo 18 = .ok (.getfield 11, 3) := by decide +kernel
theorem dX8_areSo_21 : decode cX8_areSo 21 = .ok (.iload 5, 2) := by decide +kernel
theorem dX8_areSo_23 : decode cX8_areSo 23 = .ok (.iaload, 1) := by decide +kernel
theorem dX8_areSo_24 : decode cX8_areSo 24 = .ok (.aload_n 2, 1) := by decide +kernel
theorem dX8_areSo_25 : decode cX8_areSo 25 = .ok (.getfield 51, 3) := by decide +kernel
theorem dX8_areSo_28 : decode cX8_areSo 28 = .ok (.if_icmp .ge 18, 3) := by decide +kernel
theorem dX8_areSo_31 : decode cX8_areSo 31 = .ok (.iload_n 3, 1) := by decide +kernel
theorem dX8_areSo_32 : decode cX8_areSo 32 = .ok (.aload_n 0, 1) := by decide +kernel
theorem dX8_areSo_33 : decode cX8_areSo 33 = .ok (.getfield 11, 3) := by decide +kernel
theorem dX8_areSo_36 : decode cX8_areSo 36 = .ok (.iload 5, 2) := by decide +kernel
theorem dX8_areSo_38 : decode cX8_areSo 38 = .ok (.iaload, 1) := by decide +kernel
theorem dX8_areSo_39 : decode cX8_areSo 39 = .ok (.invokestatic 56, 3) := by decide +kernel
theorem dX8_areSo_42 : decode cX8_areSo 42 = .ok (.istore_n 3, 1) := by decide +kernel
theorem dX8_areSo_43 : decode cX8_areSo 43 = .ok (.goto 16, 3) := by decide +kernel
theorem dX8_areSo_46 : decode cX8_areSo 46 = .ok (.aload_n 0, 1) := by decide +kernel
theorem dX8_areSo_47 : decode cX8_areSo 47 = .ok (.getfield 18, 3) := by decide +kernel
theorem dX8_areSo_50 : decode cX8_areSo 50 = .ok (.iload 5, 2) := by decide +kernel
theorem dX8_areSo_52 : decode cX8_areSo 52 = .ok (.iaload, 1) := by decide +kernel
theorem dX8_areSo_53 : decode cX8_areSo 53 = .ok (.iconst (-1), 1) := by decide +kernel
theorem dX8_areSo_54 : decode cX8_areSo 54 = .ok (.if_icmp .eq 5, 3) := by decide +kernel
theorem dX8_areSo_57 : decode cX8_areSo 57 = .ok (.iconst 0, 1) := by decide +kernel
theorem dX8_areSo_58 : decode cX8_areSo 58 = .ok (.ireturn, 1) := by decide +kernel
theorem dX8_areSo_59 : decode cX8_areSo 59 = .ok (.iload 4, 2) := by decide +kernel
theorem dX8_areSo_61 : decode cX8_areSo 61 = .ok (.iload 4, 2) := by decide +kernel
theorem dX8_areSo_63 : decode cX8_areSo 63 = .ok (.iconst 1, 1) := by decide +kernel
theorem dX8_areSo_64 : decode cX8_areSo 64 = .ok (.isub, 1) := by decide +kernel
theorem dX8_areSo_65 : decode cX8_areSo 65 = .ok (.iand, 1) := by decide +kernel
theorem dX8_areSo_66 : decode cX8_areSo 66 = .ok (.istore 4, 2) := by decide +kernel
theorem dX8_areSo_68 : decode cX8_areSo 68 = .ok (.goto (-63), 3) := by decide +kernel
theorem dX8_areSo_71 : decode cX8_areSo 71 = .ok (.iconst 0, 1) := by decide +kernel
theorem dX8_areSo_72 : decode cX8_areSo 72 = .ok (.istore 4, 2) := by decide +kernel
theorem dX8_areSo_74 : decode cX8_areSo 74 = .ok (.iconst 0, 1) := by decide +kernel
theorem dX8_areSo_75 : decode cX8_areSo 75 = .ok (.istore 5, 2) := by decide +kernel
theorem dX8_areSo_77 : decode cX8_areSo 77 = .ok (.iload 5, 2) := by decide +kernel
theorem dX8_areSo_79 : decode cX8_areSo 79 = .ok (.bipush 100, 2) := by decide +kernel
theorem dX8_areSo_81 : decode cX8_areSo 81 = .ok (.if_icmp .ge 61, 3) := by decide +kernel
theorem dX8_areSo_84 : decode cX8_areSo 84 = .ok (.iload 4, 2) := by decide +kernel
theorem dX8_areSo_86 : decode cX8_areSo 86 = .ok (.iload_n 3, 1) := by decide +kernel
theorem dX8_areSo_87 : decode cX8_areSo 87 = .ok (.if_icmp .gt 55, 3) := by decide +kernel
theorem dX8_areSo_90 : decode cX8_areSo 90 = .ok (.aload_n 2, 1) := by decide +kernel
theorem dX8_areSo_91 : decode cX8_areSo 91 = .ok (.invokevirtual 62, 3) := by decide +kernel
theorem dX8_areSo_94 : decode cX8_areSo 94 = .ok (.ifCond .eq 48, 3) := by decide +kernel
theorem dX8_areSo_97 : decode cX8_areSo 97 = .ok (.iload 4, 2) := by decide +kernel
theorem dX8_areSo_99 : decode cX8_areSo 99 = .ok (.aload_n 2, 1) := by decide +kernel
theorem dX8_areSo_100 : decode cX8_areSo 100 = .ok (.getfield 66, 3) := by decide +kernel
theorem dX8_areSo_103 : decode cX8_areSo 103 = .ok (.iadd, 1) := by decide +kernel
theorem dX8_areSo_104 : decode cX8_areSo 104 = .ok (.istore 6, 2) := by decide +kernel
theorem dX8_areSo_106 : decode cX8_areSo 106 = .ok (.aload_n 0, 1) := by decide +kernel
theorem dX8_areSo_107 : decode cX8_areSo 107 = .ok (.iload_n 1, 1) := by decide +kernel
theorem dX8_areSo_108 : decode cX8_areSo 108 = .ok (.iload 4, 2) := by decide +kernel
theorem dX8_areSo_110 : decode cX8_areSo 110 = .ok (.iload 6, 2) := by decide +kernel
theorem dX8_areSo_112 : decode cX8_areSo 112 = .ok (.aload_n 2, 1) := by decide +kernel
theorem dX8_areSo_113 : decode cX8_areSo 113 = .ok (.getfield 69, 3) := by decide +kernel
theorem dX8_areSo_116 : decode cX8_areSo 116 = .ok (.invokevirtual 72, 3) := by decide +kernel
theorem dX8_areSo_119 : decode cX8_areSo 119 = .ok (.ifCond .ne 5, 3) := by decide +kernel
theorem dX8_areSo_122 : decode cX8_areSo 122 = .ok (.iconst 0, 1) := by decide +kernel
theorem dX8_areSo_123 : decode cX8_areSo 123 = .ok (.ireturn, 1) := by decide +kernel
theorem dX8_areSo_124 : decode cX8_areSo 124 = .ok (.aload_n 2, 1) := by decide +kernel
theorem dX8_areSo_125 : decode cX8_areSo 125 = .ok (.aload_n 2, 1) := by decide +kernel
theorem dX8_areSo_126 : decode cX8_areSo 126 = .ok (.getfield 66, 3) := by decide +kernel
theorem dX8_areSo_129 : decode cX8_areSo 129 = .ok (.invokevirtual 76, 3) := by decide +kernel
theorem dX8_areSo_132 : decode cX8_areSo 132 = .ok (.iload 6, 2) := by decide +kernel
theorem dX8_areSo_134 : decode cX8_areSo 134 = .ok (.istore 4, 2) := by decide +kernel
theorem dX8_areSo_136 : decode cX8_areSo 136 = .ok (.iinc 5 1, 3) := by decide +kernel
theorem dX8_areSo_139 : decode cX8_areSo 139 = .ok (.goto (-62), 3) := by decide +kernel
theorem dX8_areSo_142 : decode cX8_areSo 142 = .ok (.iconst 1, 1) := by decide +kernel
theorem dX8_areSo_143 : decode cX8_areSo 143 = .ok (.ireturn, 1) := by decide +kernel
theorem dX8_standSo_0 : decode cX8_standSo 0 = .ok (.iload_n 1, 1) := by decide +kernel
theorem dX8_standSo_1 : decode cX8_standSo 1 = .ok (.istore 5, 2) := by decide +kernel
theorem dX8_standSo_3 : decode cX8_standSo 3 = .ok (.iload 5, 2) := by decide +kernel
theorem dX8_standSo_5 : decode cX8_standSo 5 = .ok (.ifCond .eq 78, 3) := by decide +kernel
theorem dX8_standSo_8 : decode cX8_standSo 8 = .ok (.iload 5, 2) := by decide +kernel
theorem dX8_standSo_10 : decode cX8_standSo 10 = .ok (.invokestatic 47, 3) := by decide +kernel
theorem dX8_standSo_13 : decode cX8_standSo 13 = .ok (.istore 6, 2) := by decide +kernel
theorem dX8_standSo_15 : decode cX8_standSo 15 = .ok (.aload_n 0, 1) := by decide +kernel
theorem dX8_standSo_16 : decode cX8_standSo 16 = .ok (.getfield 11, 3) := by decide +kernel
theorem dX8_standSo_19 : decode cX8_standSo 19 = .ok (.iload 6, 2) := by decide +kernel
theorem dX8_standSo_21 : decode cX8_standSo 21 = .ok (.iaload, 1) := by decide +kernel
theorem dX8_standSo_22 : decode cX8_standSo 22 = .ok (.iload_n 2, 1) := by decide +kernel
theorem dX8_standSo_23 : decode cX8_standSo 23 = .ok (.if_icmp .lt 18, 3) := by decide +kernel
theorem dX8_standSo_26 : decode cX8_standSo 26 = .ok (.aload_n 0, 1) := by decide +kernel
theorem dX8_standSo_27 : decode cX8_standSo 27 = .ok (.getfield 11, 3) := by decide +kernel
theorem dX8_standSo_30 : decode cX8_standSo 30 = .ok (.iload 6, 2) := by decide +kernel
theorem dX8_standSo_32 : decode cX8_standSo 32 = .ok (.iaload, 1) := by decide +kernel
theorem dX8_standSo_33 : decode cX8_standSo 33 = .ok (.iload_n 3, 1) := by decide +kernel
theorem dX8_standSo_34 : decode cX8_standSo 34 = .ok (.if_icmp .ge 7, 3) := by decide +kernel
theorem dX8_standSo_37 : decode cX8_standSo 37 = .ok (.iconst 1, 1) := by decide +kernel
theorem dX8_standSo_38 : decode cX8_standSo 38 = .ok (.goto 4, 3) := by decide +kernel
theorem dX8_standSo_41 : decode cX8_standSo 41 = .ok (.iconst 0, 1) := by decide +kernel
theorem dX8_standSo_42 : decode cX8_standSo 42 = .ok (.istore 7, 2) := by decide +kernel
theorem dX8_standSo_44 : decode cX8_standSo 44 = .ok (.iload 7, 2) := by decide +kernel
theorem dX8_standSo_46 : decode cX8_standSo 46 = .ok (.ifCond .eq 25, 3) := by decide +kernel
theorem dX8_standSo_49 : decode cX8_standSo 49 = .ok (.aload 4, 2) := by decide +kernel
theorem dX8_standSo_51 : decode cX8_standSo 51 = .ok (.aload_n 0, 1) := by decide +kernel
theorem dX8_standSo_52 : decode cX8_standSo 52 = .ok (.getfield 15, 3) := by decide +kernel
theorem dX8_standSo_55 : decode cX8_standSo 55 = .ok (.iload 6, 2) := by decide +kernel
theorem dX8_standSo_57 : decode cX8_standSo 57 = .ok (.iaload, 1) := by decide +kernel
theorem dX8_standSo_58 : decode cX8_standSo 58 = .ok (.iaload, 1) := by decide +kernel
theorem dX8_standSo_59 : decode cX8_standSo 59 = .ok (.aload_n 0, 1) := by decide +kernel
theorem dX8_standSo_60 : decode cX8_standSo 60 = .ok (.getfield 18, 3) := by decide +kernel
theorem dX8_standSo_63 : decode cX8_standSo 63 = .ok (.iload 6, 2) := by decide +kernel
theorem dX8_standSo_65 : decode cX8_standSo 65 = .ok (.iaload, 1) := by decide +kernel
theorem dX8_standSo_66 : decode cX8_standSo 66 = .ok (.if_icmp .eq 5, 3) := by decide +kernel
theorem dX8_standSo_69 : decode cX8_standSo 69 = .ok (.iconst 0, 1) := by decide +kernel
theorem dX8_standSo_70 : decode cX8_standSo 70 = .ok (.ireturn, 1) := by decide +kernel
theorem dX8_standSo_71 : decode cX8_standSo 71 = .ok (.iload 5, 2) := by decide +kernel
theorem dX8_standSo_73 : decode cX8_standSo 73 = .ok (.iload 5, 2) := by decide +kernel
theorem dX8_standSo_75 : decode cX8_standSo 75 = .ok (.iconst 1, 1) := by decide +kernel
theorem dX8_standSo_76 : decode cX8_standSo 76 = .ok (.isub, 1) := by decide +kernel
theorem dX8_standSo_77 : decode cX8_standSo 77 = .ok (.iand, 1) := by decide +kernel
theorem dX8_standSo_78 : decode cX8_standSo 78 = .ok (.istore 5, 2) := by decide +kernel
theorem dX8_standSo_80 : decode cX8_standSo 80 = .ok (.goto (-77), 3) := by decide +kernel
theorem dX8_standSo_83 : decode cX8_standSo 83 = .ok (.iconst 1, 1) := by decide +kernel
theorem dX8_standSo_84 : decode cX8_standSo 84 = .ok (.ireturn, 1) := by decide +kernel
theorem dX9_init_0 : decode cX9_init 0 = .ok (.aload_n 0, 1) := by decide +kernel
theorem dX9_init_1 : decode cX9_init 1 = .ok (.invokespecial 3, 3) := by decide +kernel
theorem dX9_init_4 : decode cX9_init 4 = .ok (.aload_n 0, 1) := by decide +kernel
theorem dX9_init_5 : decode cX9_init 5 = .ok (.bipush 12, 2) := by decide +kernel
theorem dX9_init_7 : decode cX9_init 7 = .ok (.newarray .int, 2) := by decide +kernel
theorem dX9_init_9 : decode cX9_init 9 = .ok (.putfield 11, 3) := by decide +kernel
theorem dX9_init_12 : decode cX9_init 12 = .ok (.aload_n 0, 1) := by decide +kernel
theorem dX9_init_13 : decode cX9_init 13 = .ok (.bipush 12, 2) := by decide +kernel
theorem dX9_init_15 : decode cX9_init 15 = .ok (.newarray .int, 2) := by decide +kernel
theorem dX9_init_17 : decode cX9_init 17 = .ok (.putfield 15, 3) := by decide +kernel
theorem dX9_init_20 : decode cX9_init 20 = .ok (.aload_n 0, 1) := by decide +kernel
theorem dX9_init_21 : decode cX9_init 21 = .ok (.bipush 120, 2) := by decide +kernel
theorem dX9_init_23 : decode cX9_init 23 = .ok (.newarray .int, 2) := by decide +kernel
theorem dX9_init_25 : decode cX9_init 25 = .ok (.putfield 18, 3) := by decide +kernel
theorem dX9_init_28 : decode cX9_init 28 = .ok (.aload_n 0, 1) := by decide +kernel
theorem dX9_init_29 : decode cX9_init 29 = .ok (.bipush 80, 2) := by decide +kernel
theorem dX9_init_31 : decode cX9_init 31 = .ok (.newarray .int, 2) := by decide +kernel
theorem dX9_init_33 : decode cX9_init 33 = .ok (.putfield 21, 3) := by decide +kernel
theorem dX9_init_36 : decode cX9_init 36 = .ok (.aload_n 0, 1) := by decide +kernel
theorem dX9_init_37 : decode cX9_init 37 = .ok (.iconst 0, 1) := by decide +kernel
theorem dX9_init_38 : decode cX9_init 38 = .ok (.putfield 24, 3) := by decide +kernel
theorem dX9_init_41 : decode cX9_init 41 = .ok (.aload_n 0, 1) := by decide +kernel
theorem dX9_init_42 : decode cX9_init 42 = .ok (.iconst (-1), 1) := by decide +kernel
theorem dX9_init_43 : decode cX9_init 43 = .ok (.putfield 28, 3) := by decide +kernel
theorem dX9_init_46 : decode cX9_init 46 = .ok (.aload_n 0, 1) := by decide +kernel
theorem dX9_init_47 : decode cX9_init 47 = .ok (.iconst 0, 1) := by decide +kernel
theorem dX9_init_48 : decode cX9_init 48 = .ok (.putfield 31, 3) := by decide +kernel
theorem dX9_init_51 : decode cX9_init 51 = .ok (.aload_n 0, 1) := by decide +kernel
theorem dX9_init_52 : decode cX9_init 52 = .ok (.iconst 0, 1) := by decide +kernel
theorem dX9_init_53 : decode cX9_init 53 = .ok (.putfield 34, 3) := by decide +kernel
theorem dX9_init_56 : decode cX9_init 56 = .ok (.return_, 1) := by decide +kernel
theorem dX9_beginOne_0 : decode cX9_beginOne 0 = .ok (.aload_n 0, 1) := by decide +kernel
theorem dX9_beginOne_1 : decode cX9_beginOne 1 = .ok (.getfield 24, 3) := by decide +kernel
theorem dX9_beginOne_4 : decode cX9_beginOne 4 = .ok (.bipush 12, 2) := by decide +kernel
theorem dX9_beginOne_6 : decode cX9_beginOne 6 = .ok (.if_icmp .lt 5, 3) := by decide +kernel
theorem dX9_beginOne_9 : decode cX9_beginOne 9 = .ok (.iconst (-1), 1) := by decide +kernel
theorem dX9_beginOne_10 : decode cX9_beginOne 10 = .ok (.ireturn, 1) := by decide +kernel
theorem dX9_beginOne_11 : decode cX9_beginOne 11 = .ok (.aload_n 0, 1) := by decide +kernel
theorem dX9_beginOne_12 : decode cX9_beginOne 12 = .ok (.getfield 11, 3) := by decide +kernel
theorem dX9_beginOne_15 : decode cX9_beginOne 15 = .ok (.aload_n 0, 1) := by decide +kernel
theorem dX9_beginOne_16 : decode cX9_beginOne 16 = .ok (.getfield 24, 3) := by decide +kernel
theorem dX9_beginOne_19 : decode cX9_beginOne 19 = .ok (.iload_n 1, 1) := by decide +kernel
theorem dX9_beginOne_20 : decode cX9_beginOne 20 = .ok (.iastore, 1) := by decide +kernel
theorem dX9_beginOne_21 : decode cX9_beginOne 21 = .ok (.aload_n 0, 1) := by decide +kernel
theorem dX9_beginOne_22 : decode cX9_beginOne 22 = .ok (.getfield 15, 3) := by decide +kernel
theorem dX9_beginOne_25 : decode cX9_beginOne 25 = .ok (.aload_n 0, 1) := by decide +kernel
theorem dX9_beginOne_26 : decode cX9_beginOne 26 = .ok (.getfield 24, 3) := by decide +kernel
theorem dX9_beginOne_29 : decode cX9_beginOne 29 = .ok (.iconst 0, 1) := by decide +kernel
theorem dX9_beginOne_30 : decode cX9_beginOne 30 = .ok (.iastore, 1) := by decide +kernel
theorem dX9_beginOne_31 : decode cX9_beginOne 31 = .ok (.aload_n 0, 1) := by decide +kernel
theorem dX9_beginOne_32 : decode cX9_beginOne 32 = .ok (.dup, 1) := by decide +kernel
theorem dX9_beginOne_33 : decode cX9_beginOne 33 = .ok (.getfield 24, 3) := by decide +kernel
theorem dX9_beginOne_36 : decode cX9_beginOne 36 = .ok (.iconst 1, 1) := by decide +kernel
theorem dX9_beginOne_37 : decode cX9_beginOne 37 = .ok (.iadd, 1) := by decide +kernel
theorem dX9_beginOne_38 : decode cX9_beginOne 38 = .ok (.putfield 24, 3) := by decide +kernel
theorem dX9_beginOne_41 : decode cX9_beginOne 41 = .ok (.aload_n 0, 1) := by decide +kernel
theorem dX9_beginOne_42 : decode cX9_beginOne 42 = .ok (.getfield 24, 3) := by decide +kernel
theorem dX9_beginOne_45 : decode cX9_beginOne 45 = .ok (.iconst 1, 1) := by decide +kernel
theorem dX9_beginOne_46 : decode cX9_beginOne 46 = .ok (.isub, 1) := by decide +kernel
theorem dX9_beginOne_47 : decode cX9_beginOne 47 = .ok (.ireturn, 1) := by decide +kernel
theorem dX9_addPair_0 : decode cX9_addPair 0 = .ok (.aload_n 0, 1) := by decide +kernel
theorem dX9_addPair_1 : decode cX9_addPair 1 = .ok (.getfield 24, 3) := by decide +kernel
theorem dX9_addPair_4 : decode cX9_addPair 4 = .ok (.ifCond .eq 19, 3) := by decide +kernel
theorem dX9_addPair_7 : decode cX9_addPair 7 = .ok (.aload_n 0, 1) := by decide +kernel
theorem dX9_addPair_8 : decode cX9_addPair 8 = .ok (.getfield 15, 3) := by decide +kernel
theorem dX9_addPair_11 : decode cX9_addPair 11 = .ok (.aload_n 0, 1) := by decide +kernel
theorem dX9_addPair_12 : decode cX9_addPair 12 = .ok (.getfield 24, 3) := by decide +kernel
theorem dX9_addPair_15 : decode cX9_addPair 15 = .ok (.iconst 1, 1) := by decide +kernel
theorem dX9_addPair_16 : decode cX9_addPair 16 = .ok (.isub, 1) := by decide +kernel
theorem dX9_addPair_17 : decode cX9_addPair 17 = .ok (.iaload, 1) := by decide +kernel
theorem dX9_addPair_18 : decode cX9_addPair 18 = .ok (.bipush 10, 2) := by decide +kernel
theorem dX9_addPair_20 : decode cX9_addPair 20 = .ok (.if_icmp .lt 5, 3) := by decide +kernel
theorem dX9_addPair_23 : decode cX9_addPair 23 = .ok (.iconst (-1), 1) := by decide +kernel
theorem dX9_addPair_24 : decode cX9_addPair 24 = .ok (.ireturn, 1) := by decide +kernel
theorem dX9_addPair_25 : decode cX9_addPair 25 = .ok (.aload_n 0, 1) := by decide +kernel
theorem dX9_addPair_26 : decode cX9_addPair 26 = .ok (.getfield 24, 3) := by decide +kernel
theorem dX9_addPair_29 : decode cX9_addPair 29 = .ok (.iconst 1, 1) := by decide +kernel
theorem dX9_addPair_30 : decode cX9_addPair 30 = .ok (.isub, 1) := by decide +kernel
theorem dX9_addPair_31 : decode cX9_addPair 31 = .ok (.istore_n 2, 1) := by decide +kernel
theorem dX9_addPair_32 : decode cX9_addPair 32 = .ok (.aload_n 0, 1) := by decide +kernel
theorem dX9_addPair_33 : decode cX9_addPair 33 = .ok (.getfield 18, 3) := by decide +kernel
theorem dX9_addPair_36 : decode cX9_addPair 36 = .ok (.iload_n 2, 1) := by decide +kernel
theorem dX9_addPair_37 : decode cX9_addPair 37 = .ok (.bipush 10, 2) := by decide +kernel
theorem dX9_addPair_39 : decode cX9_addPair 39 = .ok (.imul, 1) := by decide +kernel
theorem dX9_addPair_40 : decode cX9_addPair 40 = .ok (.aload_n 0, 1) := by decide +kernel
theorem dX9_addPair_41 : decode cX9_addPair 41 = .ok (.getfield 15, 3) := by decide +kernel
theorem dX9_addPair_44 : decode cX9_addPair 44 = .ok (.iload_n 2, 1) := by decide +kernel
theorem dX9_addPair_45 : decode cX9_addPair 45 = .ok (.iaload, 1) := by decide +kernel
theorem dX9_addPair_46 : decode cX9_addPair 46 = .ok (.iadd, 1) := by decide +kernel
theorem dX9_addPair_47 : decode cX9_addPair 47 = .ok (.iload_n 1, 1) := by decide +kernel
theorem dX9_addPair_48 : decode cX9_addPair 48 = .ok (.iastore, 1) := by decide +kernel
theorem dX9_addPair_49 : decode cX9_addPair 49 = .ok (.aload_n 0, 1) := by decide +kernel
theorem dX9_addPair_50 : decode cX9_addPair 50 = .ok (.getfield 15, 3) := by decide +kernel
theorem dX9_addPair_53 : decode cX9_addPair 53 = .ok (.iload_n 2, 1) := by decide +kernel
theorem dX9_addPair_54 : decode cX9_addPair 54 = .ok (.dup2, 1) := by decide +kernel
theorem dX9_addPair_55 : decode cX9_addPair 55 = .ok (.iaload, 1) := by decide +kernel
theorem dX9_addPair_56 : decode cX9_addPair 56 = .ok (.iconst 1, 1) := by decide +kernel
theorem dX9_addPair_57 : decode cX9_addPair 57 = .ok (.iadd, 1) := by decide +kernel
theorem dX9_addPair_58 : decode cX9_addPair 58 = .ok (.iastore, 1) := by decide +kernel
theorem dX9_addPair_59 : decode cX9_addPair 59 = .ok (.aload_n 0, 1) := by decide +kernel
theorem dX9_addPair_60 : decode cX9_addPair 60 = .ok (.getfield 15, 3) := by decide +kernel
theorem dX9_addPair_63 : decode cX9_addPair 63 = .ok (.iload_n 2, 1) := by decide +kernel
theorem dX9_addPair_64 : decode cX9_addPair 64 = .ok (.iaload, 1) := by decide +kernel
theorem dX9_addPair_65 : decode cX9_addPair 65 = .ok (.ireturn, 1) := by decide +kernel
theorem dX9_weigh_0 : decode cX9_weigh 0 = .ok (.aload_n 1, 1) := by decide +kernel
theorem dX9_weigh_1 : decode cX9_weigh 1 = .ok (.getfield 37, 3) := by decide +kernel
theorem dX9_weigh_4 : decode cX9_weigh 4 = .ok (.iconst 0, 1) := by decide +kernel
theorem dX9_weigh_5 : decode cX9_weigh 5 = .ok (.aload_n 0, 1) := by decide +kernel
theorem dX9_weigh_6 : decode cX9_weigh 6 = .ok (.getfield 21, 3) := by decide +kernel
theorem dX9_weigh_9 : decode cX9_weigh 9 = .ok (.iconst 0, 1) := by decide +kernel
theorem dX9_weigh_10 : decode cX9_weigh 10 = .ok (.bipush 80, 2) := by decide +kernel
theorem dX9_weigh_12 : decode cX9_weigh 12 = .ok (.invokestatic 42, 3) := by decide +kernel
theorem dX9_weigh_15 : decode cX9_weigh 15 = .ok (.aload_n 0, 1) := by decide +kernel
theorem dX9_weigh_16 : decode cX9_weigh 16 = .ok (.iconst (-1), 1) := by decide +kernel
theorem dX9_weigh_17 : decode cX9_weigh 17 = .ok (.putfield 28, 3) := by decide +kernel
theorem dX9_weigh_20 : decode cX9_weigh 20 = .ok (.aload_n 0, 1) := by decide +kernel
theorem dX9_weigh_21 : decode cX9_weigh 21 = .ok (.aload_n 1, 1) := by decide +kernel
theorem dX9_weigh_22 : decode cX9_weigh 22 = .ok (.invokevirtual 48, 3) := by decide +kernel
theorem dX9_weigh_25 : decode cX9_weigh 25 = .ok (.putfield 31, 3) := by decide +kernel
theorem dX9_weigh_28 : decode cX9_weigh 28 = .ok (.aload_n 0, 1) := by decide +kernel
theorem dX9_weigh_29 : decode cX9_weigh 29 = .ok (.iconst 0, 1) := by decide +kernel
theorem dX9_weigh_30 : decode cX9_weigh 30 = .ok (.putfield 34, 3) := by decide +kernel
theorem dX9_weigh_33 : decode cX9_weigh 33 = .ok (.iconst 0, 1) := by decide +kernel
theorem dX9_weigh_34 : decode cX9_weigh 34 = .ok (.istore_n 2, 1) := by decide +kernel
theorem dX9_weigh_35 : decode cX9_weigh 35 = .ok (.iload_n 2, 1) := by decide +kernel
theorem dX9_weigh_36 : decode cX9_weigh 36 = .ok (.aload_n 0, 1) := by decide +kernel
theorem dX9_weigh_37 : decode cX9_weigh 37 = .ok (.getfield 24, 3) := by decide +kernel
theorem dX9_weigh_40 : decode cX9_weigh 40 = .ok (.if_icmp .ge 38, 3) := by decide +kernel
theorem dX9_weigh_43 : decode cX9_weigh 43 = .ok (.aload_n 0, 1) := by decide +kernel
theorem dX9_weigh_44 : decode cX9_weigh 44 = .ok (.getfield 28, 3) := by decide +kernel
theorem dX9_weigh_47 : decode cX9_weigh 47 = .ok (.iconst (-1), 1) := by decide +kernel
theorem dX9_weigh_48 : decode cX9_weigh 48 = .ok (.if_icmp .ne 30, 3) := by decide +kernel
theorem dX9_weigh_51 : decode cX9_weigh 51 = .ok (.aload_n 0, 1) := by decide +kernel
theorem dX9_weigh_52 : decode cX9_weigh 52 = .ok (.iload_n 2, 1) := by decide +kernel
theorem dX9_weigh_53 : decode cX9_weigh 53 = .ok (.invokevirtual 52, 3) := by decide +kernel
theorem dX9_weigh_56 : decode cX9_weigh 56 = .ok (.ifCond .eq 11, 3) := by decide +kernel
theorem dX9_weigh_59 : decode cX9_weigh 59 = .ok (.aload_n 0, 1) := by decide +kernel
theorem dX9_weigh_60 : decode cX9_weigh 60 = .ok (.iload_n 2, 1) := by decide +kernel
theorem dX9_weigh_61 : decode cX9_weigh 61 = .ok (.invokevirtual 56, 3) := by decide +kernel
theorem dX9_weigh_64 : decode cX9_weigh 64 = .ok (.goto 8, 3) := by decide +kernel
theorem dX9_weigh_67 : decode cX9_weigh 67 = .ok (.aload_n 0, 1) := by decide +kernel
theorem dX9_weigh_68 : decode cX9_weigh 68 = .ok (.iload_n 2, 1) := by decide +kernel
theorem dX9_weigh_69 : decode cX9_weigh 69 = .ok (.putfield 28, 3) := by decide +kernel
theorem dX9_weigh_72 : decode cX9_weigh 72 = .ok (.iinc 2 1, 3) := by decide +kernel
theorem dX9_weigh_75 : decode cX9_weigh 75 = .ok (.goto (-40), 3) := by decide +kernel
theorem dX9_weigh_78 : decode cX9_weigh 78 = .ok (.return_, 1) := by decide +kernel
theorem dX9_canBe_0 : decode cX9_canBe 0 = .ok (.iconst 0, 1) := by decide +kernel
theorem dX9_canBe_1 : decode cX9_canBe 1 = .ok (.istore_n 2, 1) := by decide +kernel
theorem dX9_canBe_2 : decode cX9_canBe 2 = .ok (.iconst 0, 1) := by decide +kernel
theorem dX9_canBe_3 : decode cX9_canBe 3 = .ok (.istore_n 3, 1) := by decide +kernel
theorem dX9_canBe_4 : decode cX9_canBe 4 = .ok (.iconst 0, 1) := by decide +kernel
theorem dX9_canBe_5 : decode cX9_canBe 5 = .ok (.istore 4, 2) := by decide +kernel
theorem dX9_canBe_7 : decode cX9_canBe 7 = .ok (.iload 4, 2) := by decide +kernel
theorem dX9_canBe_9 : decode cX9_canBe 9 = .ok (.aload_n 0, 1) := by decide +kernel
theorem dX9_canBe_10 : decode cX9_canBe 10 = .ok (.getfield 15, 3) := by decide +kernel
theorem dX9_canBe_13 : decode cX9_canBe 13 = .ok (.iload_n 1, 1) := by decide +kernel
theorem dX9_canBe_14 : decode cX9_canBe 14 = .ok (.iaload, 1) := by decide +kernel
theorem dX9_canBe_15 : decode cX9_canBe 15 = .ok (.if_icmp .ge 83, 3) := by decide +kernel
theorem dX9_canBe_18 : decode cX9_canBe 18 = .ok (.aload_n 0, 1) := by decide +kernel
theorem dX9_canBe_19 : decode cX9_canBe 19 = .ok (.getfield 18, 3) := by decide +kernel
theorem dX9_canBe_22 : decode cX9_canBe 22 = .ok (.iload_n 1, 1) := by decide +kernel
theorem dX9_canBe_23 : decode cX9_canBe 23 = .ok (.bipush 10, 2) := by decide +kernel
theorem dX9_canBe_25 : decode cX9_canBe 25 = .ok (.imul, 1) := by decide +kernel
theorem dX9_canBe_26 : decode cX9_canBe 26 = .ok (.iload 4, 2) := by decide +kernel
theorem dX9_canBe_28 : decode cX9_canBe 28 = .ok (.iadd, 1) := by decide +kernel
theorem dX9_canBe_29 : decode cX9_canBe 29 = .ok (.iaload, 1) := by decide +kernel
theorem dX9_canBe_30 : decode cX9_canBe 30 = .ok (.istore 5, 2) := by decide +kernel
theorem dX9_canBe_32 : decode cX9_canBe 32 = .ok (.iconst 1, 1) := by decide +kernel
theorem dX9_canBe_33 : decode cX9_canBe 33 = .ok (.iload 5, 2) := by decide +kernel
theorem dX9_canBe_35 : decode cX9_canBe 35 = .ok (.bipush 10, 2) := by decide +kernel
theorem dX9_canBe_37 : decode cX9_canBe 37 = .ok (.idiv, 1) := by decide +kernel
theorem dX9_canBe_38 : decode cX9_canBe 38 = .ok (.ishl, 1) := by decide +kernel
theorem dX9_canBe_39 : decode cX9_canBe 39 = .ok (.istore 6, 2) := by decide +kernel
theorem dX9_canBe_41 : decode cX9_canBe 41 = .ok (.iconst 1, 1) := by decide +kernel
theorem dX9_canBe_42 : decode cX9_canBe 42 = .ok (.iload 5, 2) := by decide +kernel
theorem dX9_canBe_44 : decode cX9_canBe 44 = .ok (.bipush 10, 2) := by decide +kernel
theorem dX9_canBe_46 : decode cX9_canBe 46 = .ok (.irem, 1) := by decide +kernel
theorem dX9_canBe_47 : decode cX9_canBe 47 = .ok (.ishl, 1) := by decide +kernel
theorem dX9_canBe_48 : decode cX9_canBe 48 = .ok (.istore 7, 2) := by decide +kernel
theorem dX9_canBe_50 : decode cX9_canBe 50 = .ok (.iload_n 2, 1) := by decide +kernel
theorem dX9_canBe_51 : decode cX9_canBe 51 = .ok (.iload 6, 2) := by decide +kernel
theorem dX9_canBe_53 : decode cX9_canBe 53 = .ok (.iand, 1) := by decide +kernel
theorem dX9_canBe_54 : decode cX9_canBe 54 = .ok (.ifCond .ne 26, 3) := by decide +kernel
theorem dX9_canBe_57 : decode cX9_canBe 57 = .ok (.iload_n 3, 1) := by decide +kernel
theorem dX9_canBe_58 : decode cX9_canBe 58 = .ok (.iload 7, 2) := by decide +kernel
theorem dX9_canBe_60 : decode cX9_canBe 60 = .ok (.iand, 1) := by decide +kernel
theorem dX9_canBe_61 : decode cX9_canBe 61 = .ok (.ifCond .ne 19, 3) := by decide +kernel
theorem dX9_canBe_64 : decode cX9_canBe 64 = .ok (.aload_n 0, 1) := by decide +kernel
theorem dX9_canBe_65 : decode cX9_canBe 65 = .ok (.getfield 21, 3) := by decide +kernel
theorem dX9_canBe_68 : decode cX9_canBe 68 = .ok (.iload 5, 2) := by decide +kernel
theorem dX9_canBe_70 : decode cX9_canBe 70 = .ok (.iaload, 1) := by decide +kernel
theorem dX9_canBe_71 : decode cX9_canBe 71 = .ok (.aload_n 0, 1) := by decide +kernel
theorem dX9_canBe_72 : decode cX9_canBe 72 = .ok (.getfield 11, 3) := by decide +kernel
theorem dX9_canBe_75 : decode cX9_canBe 75 = .ok (.iload_n 1, 1) := by decide +kernel
theorem dX9_canBe_76 : decode cX9_canBe 76 = .ok (.iaload, 1) := by decide +kernel
theorem dX9_canBe_77 : decode cX9_canBe 77 = .ok (.if_icmp .ge 5, 3) := by decide +kernel
theorem dX9_canBe_80 : decode cX9_canBe 80 = .ok (.iconst 0, 1) := by decide +kernel
theorem dX9_canBe_81 : decode cX9_canBe 81 = .ok (.ireturn, 1) := by decide +kernel
theorem dX9_canBe_82 : decode cX9_canBe 82 = .ok (.iload_n 2, 1) := by decide +kernel
theorem dX9_canBe_83 : decode cX9_canBe 83 = .ok (.iload 6, 2) := by decide +kernel
theorem dX9_canBe_85 : decode cX9_canBe 85 = .ok (.ior, 1) := by decide +kernel
theorem dX9_canBe_86 : decode cX9_canBe 86 = .ok (.istore_n 2, 1) := by decide +kernel
theorem dX9_canBe_87 : decode cX9_canBe 87 = .ok (.iload_n 3, 1) := by decide +kernel
theorem dX9_canBe_88 : decode cX9_canBe 88 = .ok (.iload 7, 2) := by decide +kernel
theorem dX9_canBe_90 : decode cX9_canBe 90 = .ok (.ior, 1) := by decide +kernel
theorem dX9_canBe_91 : decode cX9_canBe 91 = .ok (.istore_n 3, 1) := by decide +kernel
theorem dX9_canBe_92 : decode cX9_canBe 92 = .ok (.iinc 4 1, 3) := by decide +kernel
theorem dX9_canBe_95 : decode cX9_canBe 95 = .ok (.goto (-88), 3) := by decide +kernel
theorem dX9_canBe_98 : decode cX9_canBe 98 = .ok (.iconst 1, 1) := by decide +kernel
theorem dX9_canBe_99 : decode cX9_canBe 99 = .ok (.ireturn, 1) := by decide +kernel
theorem dX9_passOne_0 : decode cX9_passOne 0 = .ok (.iconst 0, 1) := by decide +kernel
theorem dX9_passOne_1 : decode cX9_passOne 1 = .ok (.istore_n 2, 1) := by decide +kernel
theorem dX9_passOne_2 : decode cX9_passOne 2 = .ok (.iload_n 2, 1) := by decide +kernel
theorem dX9_passOne_3 : decode cX9_passOne 3 = .ok (.aload_n 0, 1) := by decide +kernel
theorem dX9_passOne_4 : decode cX9_passOne 4 = .ok (.getfield 15, 3) := by decide +kernel
theorem dX9_passOne_7 : decode cX9_passOne 7 = .ok (.iload_n 1, 1) := by decide +kernel
theorem dX9_passOne_8 : decode cX9_passOne 8 = .ok (.iaload, 1) := by decide +kernel
theorem dX9_passOne_9 : decode cX9_passOne 9 = .ok (.if_icmp .ge 34, 3) := by decide +kernel
theorem dX9_passOne_12 : decode cX9_passOne 12 = .ok (.aload_n 0, 1) := by decide +kernel
theorem dX9_passOne_13 : decode cX9_passOne 13 = .ok (.getfield 21, 3) := by decide +kernel
theorem dX9_passOne_16 : decode cX9_passOne 16 = .ok (.aload_n 0, 1) := by decide +kernel
theorem dX9_passOne_17 : decode cX9_passOne 17 = .ok (.getfield 18, 3) := by decide +kernel
theorem dX9_passOne_20 : decode cX9_passOne 20 = .ok (.iload_n 1, 1) := by decide +kernel
theorem dX9_passOne_21 : decode cX9_passOne 21 = .ok (.bipush 10, 2) := by decide +kernel
theorem dX9_passOne_23 : decode cX9_passOne 23 = .ok (.imul, 1) := by decide +kernel
theorem dX9_passOne_24 : decode cX9_passOne 24 = .ok (.iload_n 2, 1) := by decide +kernel
theorem dX9_passOne_25 : decode cX9_passOne 25 = .ok (.iadd, 1) := by decide +kernel
theorem dX9_passOne_26 : decode cX9_passOne 26 = .ok (.iaload, 1) := by decide +kernel
theorem dX9_passOne_27 : decode cX9_passOne 27 = .ok (.dup2, 1) := by decide +kernel
theorem dX9_passOne_28 : decode cX9_passOne 28 = .ok (.iaload, 1) := by decide +kernel
theorem dX9_passOne_29 : decode cX9_passOne 29 = .ok (.aload_n 0, 1) := by decide +kernel
theorem dX9_passOne_30 : decode cX9_passOne 30 = .ok (.getfield 11, 3) := by decide +kernel
theorem dX9_passOne_33 : decode cX9_passOne 33 = .ok (.iload_n 1, 1) := by decide +kernel
theorem dX9_passOne_34 : decode cX9_passOne 34 = .ok (.iaload, 1) := by decide +kernel
theorem dX9_passOne_35 : decode cX9_passOne 35 = .ok (.isub, 1) := by decide +kernel
theorem dX9_passOne_36 : decode cX9_passOne 36 = .ok (.iastore, 1) := by decide +kernel
theorem dX9_passOne_37 : decode cX9_passOne 37 = .ok (.iinc 2 1, 3) := by decide +kernel
theorem dX9_passOne_40 : decode cX9_passOne 40 = .ok (.goto (-38), 3) := by decide +kernel
theorem dX9_passOne_43 : decode cX9_passOne 43 = .ok (.aload_n 0, 1) := by decide +kernel
theorem dX9_passOne_44 : decode cX9_passOne 44 = .ok (.dup, 1) := by decide +kernel
theorem dX9_passOne_45 : decode cX9_passOne 45 = .ok (.getfield 31, 3) := by decide +kernel
theorem dX9_passOne_48 : decode cX9_passOne 48 = .ok (.aload_n 0, 1) := by decide +kernel
theorem dX9_passOne_49 : decode cX9_passOne 49 = .ok (.getfield 11, 3) := by decide +kernel
theorem dX9_passOne_52 : decode cX9_passOne 52 = .ok (.iload_n 1, 1) := by decide +kernel
theorem dX9_passOne_53 : decode cX9_passOne 53 = .ok (.iaload, 1) := by decide +kernel
theorem dX9_passOne_54 : decode cX9_passOne 54 = .ok (.aload_n 0, 1) := by decide +kernel
theorem dX9_passOne_55 : decode cX9_passOne 55 = .ok (.getfield 15, 3) := by decide +kernel
theorem dX9_passOne_58 : decode cX9_passOne 58 = .ok (.iload_n 1, 1) := by decide +kernel
theorem dX9_passOne_59 : decode cX9_passOne 59 = .ok (.iaload, 1) := by decide +kernel
theorem dX9_passOne_60 : decode cX9_passOne 60 = .ok (.imul, 1) := by decide +kernel
theorem dX9_passOne_61 : decode cX9_passOne 61 = .ok (.isub, 1) := by decide +kernel
theorem dX9_passOne_62 : decode cX9_passOne 62 = .ok (.putfield 31, 3) := by decide +kernel
theorem dX9_passOne_65 : decode cX9_passOne 65 = .ok (.aload_n 0, 1) := by decide +kernel
theorem dX9_passOne_66 : decode cX9_passOne 66 = .ok (.dup, 1) := by decide +kernel
theorem dX9_passOne_67 : decode cX9_passOne 67 = .ok (.getfield 34, 3) := by decide +kernel
theorem dX9_passOne_70 : decode cX9_passOne 70 = .ok (.aload_n 0, 1) := by decide +kernel
theorem dX9_passOne_71 : decode cX9_passOne 71 = .ok (.getfield 11, 3) := by decide +kernel
theorem dX9_passOne_74 : decode cX9_passOne 74 = .ok (.iload_n 1, 1) := by decide +kernel
theorem dX9_passOne_75 : decode cX9_passOne 75 = .ok (.iaload, 1) := by decide +kernel
theorem dX9_passOne_76 : decode cX9_passOne 76 = .ok (.iadd, 1) := by decide +kernel
theorem dX9_passOne_77 : decode cX9_passOne 77 = .ok (.putfield 34, 3) := by decide +kernel
theorem dX9_passOne_80 : decode cX9_passOne 80 = .ok (.return_, 1) := by decide +kernel
theorem dX10_init_0 : decode cX10_init 0 = .ok (.aload_n 0, 1) := by decide +kernel
theorem dX10_init_1 : decode cX10_init 1 = .ok (.invokespecial 3, 3) := by decide +kernel
theorem dX10_init_4 : decode cX10_init 4 = .ok (.aload_n 0, 1) := by decide +kernel
theorem dX10_init_5 : decode cX10_init 5 = .ok (.bipush 8, 2) := by decide +kernel
theorem dX10_init_7 : decode cX10_init 7 = .ok (.newarray .long, 2) := by decide +kernel
theorem dX10_init_9 : decode cX10_init 9 = .ok (.putfield 9, 3) := by decide +kernel
theorem dX10_init_12 : decode cX10_init 12 = .ok (.aload_n 0, 1) := by decide +kernel
theorem dX10_init_13 : decode cX10_init 13 = .ok (.bipush 10, 2) := by decide +kernel
theorem dX10_init_15 : decode cX10_init 15 = .ok (.newarray .long, 2) := by decide +kernel
theorem dX10_init_17 : decode cX10_init 17 = .ok (.putfield 15, 3) := by decide +kernel
theorem dX10_init_20 : decode cX10_init 20 = .ok (.aload_n 0, 1) := by decide +kernel
theorem dX10_init_21 : decode cX10_init 21 = .ok (.bipush 8, 2) := by decide +kernel
theorem dX10_init_23 : decode cX10_init 23 = .ok (.newarray .int, 2) := by decide +kernel
theorem dX10_init_25 : decode cX10_init 25 = .ok (.putfield 18, 3) := by decide +kernel
theorem dX10_init_28 : decode cX10_init 28 = .ok (.aload_n 0, 1) := by decide +kernel
theorem dX10_init_29 : decode cX10_init 29 = .ok (.bipush 8, 2) := by decide +kernel
theorem dX10_init_31 : decode cX10_init 31 = .ok (.newarray .int, 2) := by decide +kernel
theorem dX10_init_33 : decode cX10_init 33 = .ok (.putfield 22, 3) := by decide +kernel
theorem dX10_init_36 : decode cX10_init 36 = .ok (.aload_n 0, 1) := by decide +kernel
theorem dX10_init_37 : decode cX10_init 37 = .ok (.bipush 8, 2) := by decide +kernel
theorem dX10_init_39 : decode cX10_init 39 = .ok (.newarray .int, 2) := by decide +kernel
theorem dX10_init_41 : decode cX10_init 41 = .ok (.putfield 25, 3) := by decide +kernel
theorem dX10_init_44 : decode cX10_init 44 = .ok (.aload_n 0, 1) := by decide +kernel
theorem dX10_init_45 : decode cX10_init 45 = .ok (.bipush 80, 2) := by decide +kernel
theorem dX10_init_47 : decode cX10_init 47 = .ok (.newarray .int, 2) := by decide +kernel
theorem dX10_init_49 : decode cX10_init 49 = .ok (.putfield 28, 3) := by decide +kernel
theorem dX10_init_52 : decode cX10_init 52 = .ok (.aload_n 0, 1) := by decide +kernel
theorem dX10_init_53 : decode cX10_init 53 = .ok (.iconst 0, 1) := by decide +kernel
theorem dX10_init_54 : decode cX10_init 54 = .ok (.putfield 31, 3) := by decide +kernel
theorem dX10_init_57 : decode cX10_init 57 = .ok (.aload_n 0, 1) := by decide +kernel
theorem dX10_init_58 : decode cX10_init 58 = .ok (.iconst 0, 1) := by decide +kernel
theorem dX10_init_59 : decode cX10_init 59 = .ok (.putfield 35, 3) := by decide +kernel
theorem dX10_init_62 : decode cX10_init 62 = .ok (.aload_n 0, 1) := by decide +kernel
theorem dX10_init_63 : decode cX10_init 63 = .ok (.iconst 0, 1) := by decide +kernel
theorem dX10_init_64 : decode cX10_init 64 = .ok (.putfield 38, 3) := by decide +kernel
theorem dX10_init_67 : decode cX10_init 67 = .ok (.aload_n 0, 1) := by decide +kernel
theorem dX10_init_68 : decode cX10_init 68 = .ok (.iconst 0, 1) := by decide +kernel
theorem dX10_init_69 : decode cX10_init 69 = .ok (.putfield 41, 3) := by decide +kernel
theorem dX10_init_72 : decode cX10_init 72 = .ok (.aload_n 0, 1) := by decide +kernel
theorem dX10_init_73 : decode cX10_init 73 = .ok (.iconst 0, 1) := by decide +kernel
theorem dX10_init_74 : decode cX10_init 74 = .ok (.putfield 44, 3) := by decide +kernel
theorem dX10_init_77 : decode cX10_init 77 = .ok (.aload_n 0, 1) := by decide +kernel
theorem dX10_init_78 : decode cX10_init 78 = .ok (.iconst (-1), 1) := by decide +kernel
theorem dX10_init_79 : decode cX10_init 79 = .ok (.putfield 47, 3) := by decide +kernel
theorem dX10_init_82 : decode cX10_init 82 = .ok (.return_, 1) := by decide +kernel
theorem dX10_clear_0 : decode cX10_clear 0 = .ok (.aload_n 0, 1) := by decide +kernel
theorem dX10_clear_1 : decode cX10_clear 1 = .ok (.iconst 0, 1) := by decide +kernel
theorem dX10_clear_2 : decode cX10_clear 2 = .ok (.putfield 31, 3) := by decide +kernel
theorem dX10_clear_5 : decode cX10_clear 5 = .ok (.aload_n 0, 1) := by decide +kernel
theorem dX10_clear_6 : decode cX10_clear 6 = .ok (.iconst 0, 1) := by decide +kernel
theorem dX10_clear_7 : decode cX10_clear 7 = .ok (.putfield 35, 3) := by decide +kernel
theorem dX10_clear_10 : decode cX10_clear 10 = .ok (.aload_n 0, 1) := by decide +kernel
theorem dX10_clear_11 : decode cX10_clear 11 = .ok (.iconst 0, 1) := by decide +kernel
theorem dX10_clear_12 : decode cX10_clear 12 = .ok (.putfield 38, 3) := by decide +kernel
theorem dX10_clear_15 : decode cX10_clear 15 = .ok (.aload_n 0, 1) := by decide +kernel
theorem dX10_clear_16 : decode cX10_clear 16 = .ok (.iconst 0, 1) := by decide +kernel
theorem dX10_clear_17 : decode cX10_clear 17 = .ok (.putfield 41, 3) := by decide +kernel
theorem dX10_clear_20 : decode cX10_clear 20 = .ok (.aload_n 0, 1) := by decide +kernel
theorem dX10_clear_21 : decode cX10_clear 21 = .ok (.iconst 0, 1) := by decide +kernel
theorem dX10_clear_22 : decode cX10_clear 22 = .ok (.putfield 44, 3) := by decide +kernel
theorem dX10_clear_25 : decode cX10_clear 25 = .ok (.aload_n 0, 1) := by decide +kernel
theorem dX10_clear_26 : decode cX10_clear 26 = .ok (.iconst (-1), 1) := by decide +kernel
theorem dX10_clear_27 : decode cX10_clear 27 = .ok (.putfield 47, 3) := by decide +kernel
theorem dX10_clear_30 : decode cX10_clear 30 = .ok (.aload_n 0, 1) := by decide +kernel
theorem dX10_clear_31 : decode cX10_clear 31 = .ok (.getfield 22, 3) := by decide +kernel
theorem dX10_clear_34 : decode cX10_clear 34 = .ok (.iconst 0, 1) := by decide +kernel
theorem dX10_clear_35 : decode cX10_clear 35 = .ok (.invokestatic 50, 3) := by decide +kernel
theorem dX10_clear_38 : decode cX10_clear 38 = .ok (.aload_n 0, 1) := by decide +kernel
theorem dX10_clear_39 : decode cX10_clear 39 = .ok (.getfield 25, 3) := by decide +kernel
theorem dX10_clear_42 : decode cX10_clear 42 = .ok (.iconst 0, 1) := by decide +kernel
theorem dX10_clear_43 : decode cX10_clear 43 = .ok (.invokestatic 50, 3) := by decide +kernel
theorem dX10_clear_46 : decode cX10_clear 46 = .ok (.aload_n 0, 1) := by decide +kernel
theorem dX10_clear_47 : decode cX10_clear 47 = .ok (.getfield 28, 3) := by decide +kernel
theorem dX10_clear_50 : decode cX10_clear 50 = .ok (.iconst 0, 1) := by decide +kernel
theorem dX10_clear_51 : decode cX10_clear 51 = .ok (.invokestatic 50, 3) := by decide +kernel
theorem dX10_clear_54 : decode cX10_clear 54 = .ok (.return_, 1) := by decide +kernel
theorem dX10_smithNamed_0 : decode cX10_smithNamed 0 = .ok (.iconst 0, 1) := by decide +kernel
theorem dX10_smithNamed_1 : decode cX10_smithNamed 1 = .ok (.istore_n 3, 1) := by decide +kernel
theorem dX10_smithNamed_2 : decode cX10_smithNamed 2 = .ok (.iload_n 3, 1) := by decide +kernel
theorem dX10_smithNamed_3 : decode cX10_smithNamed 3 = .ok (.aload_n 0, 1) := by decide +kernel
theorem dX10_smithNamed_4 : decode cX10_smithNamed 4 = .ok (.getfield 31, 3) := by decide +kernel
theorem dX10_smithNamed_7 : decode cX10_smithNamed 7 = .ok (.if_icmp .ge 22, 3) := by decide +kernel
theorem dX10_smithNamed_10 : decode cX10_smithNamed 10 = .ok (.aload_n 0, 1) := by decide +kernel
theorem dX10_smithNamed_11 : decode cX10_smithNamed 11 = .ok (.getfield 9, 3) := by decide +kernel
theorem dX10_smithNamed_14 : decode cX10_smithNamed 14 = .ok (.iload_n 3, 1) := by decide +kernel
theorem dX10_smithNamed_15 : decode cX10_smithNamed 15 = .ok (.laload, 1) := by decide +kernel
theorem dX10_smithNamed_16 : decode cX10_smithNamed 16 = .ok (.lload_n 1, 1) := by decide +kernel
theorem dX10_smithNamed_17 : decode cX10_smithNamed 17 = .ok (.lcmp, 1) := by decide +kernel
theorem dX10_smithNamed_18 : decode cX10_smithNamed 18 = .ok (.ifCond .ne 5, 3) := by decide +kernel
theorem dX10_smithNamed_21 : decode cX10_smithNamed 21 = .ok (.iload_n 3, 1) := by decide +kernel
theorem dX10_smithNamed_22 : decode cX10_smithNamed 22 = .ok (.ireturn, 1) := by decide +kernel
theorem dX10_smithNamed_23 : decode cX10_smithNamed 23 = .ok (.iinc 3 1, 3) := by decide +kernel
theorem dX10_smithNamed_26 : decode cX10_smithNamed 26 = .ok (.goto (-24), 3) := by decide +kernel
theorem dX10_smithNamed_29 : decode cX10_smithNamed 29 = .ok (.iconst (-1), 1) := by decide +kernel
theorem dX10_smithNamed_30 : decode cX10_smithNamed 30 = .ok (.ireturn, 1) := by decide +kernel
theorem dX10_horseNamed_0 : decode cX10_horseNamed 0 = .ok (.iconst 0, 1) := by decide +kernel
theorem dX10_horseNamed_1 : decode cX10_horseNamed 1 = .ok (.istore_n 3, 1) := by decide +kernel
theorem dX10_horseNamed_2 : decode cX10_horseNamed 2 = .ok (.iload_n 3, 1) := by decide +kernel
theorem dX10_horseNamed_3 : decode cX10_horseNamed 3 = .ok (.aload_n 0, 1) := by decide +kernel
theorem dX10_horseNamed_4 : decode cX10_horseNamed 4 = .ok (.getfield 35, 3) := by decide +kernel
theorem dX10_horseNamed_7 : decode cX10_horseNamed 7 = .ok (.if_icmp .ge 22, 3) := by decide +kernel
theorem dX10_horseNamed_10 : decode cX10_horseNamed 10 = .ok (.aload_n 0, 1) := by decide +kernel
theorem dX10_horseNamed_11 : decode cX10_horseNamed 11 = .ok (.getfield 15, 3) := by decide +kernel
theorem dX10_horseNamed_14 : decode cX10_horseNamed 14 = .ok (.iload_n 3, 1) := by decide +kernel
theorem dX10_horseNamed_15 : decode cX10_horseNamed 15 = .ok (.laload, 1) := by decide +kernel
theorem dX10_horseNamed_16 : decode cX10_horseNamed 16 = .ok (.lload_n 1, 1) := by decide +kernel
theorem dX10_horseNamed_17 : decode cX10_horseNamed 17 = .ok (.lcmp, 1) := by decide +kernel
theorem dX10_horseNamed_18 : decode cX10_horseNamed 18 = .ok (.ifCond .ne 5, 3) := by decide +kernel
theorem dX10_horseNamed_21 : decode cX10_horseNamed 21 = .ok (.iload_n 3, 1) := by decide +kernel
theorem dX10_horseNamed_22 : decode cX10_horseNamed 22 = .ok (.ireturn, 1) := by decide +kernel
theorem dX10_horseNamed_23 : decode cX10_horseNamed 23 = .ok (.iinc 3 1, 3) := by decide +kernel
theorem dX10_horseNamed_26 : decode cX10_horseNamed 26 = .ok (.goto (-24), 3) := by decide +kernel
theorem dX10_horseNamed_29 : decode cX10_horseNamed 29 = .ok (.iconst (-1), 1) := by decide +kernel
theorem dX10_horseNamed_30 : decode cX10_horseNamed 30 = .ok (.ireturn, 1) := by decide +kernel
theorem dX10_addSmith_0 : decode cX10_addSmith 0 = .ok (.aload_n 0, 1) := by decide +kernel
theorem dX10_addSmith_1 : decode cX10_addSmith 1 = .ok (.getfield 31, 3) := by decide +kernel
theorem dX10_addSmith_4 : decode cX10_addSmith 4 = .ok (.bipush 8, 2) := by decide +kernel
theorem dX10_addSmith_6 : decode cX10_addSmith 6 = .ok (.if_icmp .ge 53, 3) := by decide +kernel
theorem dX10_addSmith_9 : decode cX10_addSmith 9 = .ok (.aload_n 0, 1) := by decide +kernel
theorem dX10_addSmith_10 : decode cX10_addSmith 10 = .ok (.getfield 9, 3) := by decide +kernel
theorem dX10_addSmith_13 : decode cX10_addSmith 13 = .ok (.aload_n 0, 1) := by decide +kernel
theorem dX10_addSmith_14 : decode cX10_addSmith 14 = .ok (.getfield 31, 3) := by decide +kernel
theorem dX10_addSmith_17 : decode cX10_addSmith 17 = .ok (.lload_n 1, 1) := by decide +kernel
theorem dX10_addSmith_18 : decode cX10_addSmith 18 = .ok (.lastore, 1) := by decide +kernel
theorem dX10_addSmith_19 : decode cX10_addSmith 19 = .ok (.aload_n 0, 1) := by decide +kernel
theorem dX10_addSmith_20 : decode cX10_addSmith 20 = .ok (.getfield 18, 3) := by decide +kernel
theorem dX10_addSmith_23 : decode cX10_addSmith 23 = .ok (.aload_n 0, 1) := by decide +kernel
theorem dX10_addSmith_24 : decode cX10_addSmith 24 = .ok (.getfield 31, 3) := by decide +kernel
theorem dX10_addSmith_27 : decode cX10_addSmith 27 = .ok (.iload 4, 2) := by decide +kernel
theorem dX10_addSmith_29 : decode cX10_addSmith 29 = .ok (.iastore, 1) := by decide +kernel
theorem dX10_addSmith_30 : decode cX10_addSmith 30 = .ok (.iload_n 3, 1) := by decide +kernel
theorem dX10_addSmith_31 : decode cX10_addSmith 31 = .ok (.ifCond .eq 18, 3) := by decide +kernel
theorem dX10_addSmith_34 : decode cX10_addSmith 34 = .ok (.aload_n 0, 1) := by decide +kernel
theorem dX10_addSmith_35 : decode cX10_addSmith 35 = .ok (.dup, 1) := by decide +kernel
theorem dX10_addSmith_36 : decode cX10_addSmith 36 = .ok (.getfield 38, 3) := by decide +kernel
theorem dX10_addSmith_39 : decode cX10_addSmith 39 = .ok (.iconst 1, 1) := by decide +kernel
theorem dX10_addSmith_40 : decode cX10_addSmith 40 = .ok (.aload_n 0, 1) := by decide +kernel
theorem dX10_addSmith_41 : decode cX10_addSmith 41 = .ok (.getfield 31, 3) := by decide +kernel
theorem dX10_addSmith_44 : decode cX10_addSmith 44 = .ok (.ishl, 1) := by decide +kernel
theorem dX10_addSmith_45 : decode cX10_addSmith 45 = .ok (.ior, 1) := by decide +kernel
theorem dX10_addSmith_46 : decode cX10_addSmith 46 = .ok (.putfield 38, 3) := by decide +kernel
theorem dX10_addSmith_49 : decode cX10_addSmith 49 = .ok (.aload_n 0, 1) := by decide +kernel
theorem dX10_addSmith_50 : decode cX10_addSmith 50 = .ok (.dup, 1) := by decide +kernel
theorem dX10_addSmith_51 : decode cX10_addSmith 51 = .ok (.getfield 31, 3) := by decide +kernel
theorem dX10_addSmith_54 : decode cX10_addSmith 54 = .ok (.iconst 1, 1) := by decide +kernel
theorem dX10_addSmith_55 : decode cX10_addSmith 55 = .ok (.iadd, 1) := by decide +kernel
theorem dX10_addSmith_56 : decode cX10_addSmith 56 = .ok (.putfield 31, 3) := by decide +kernel
theorem dX10_addSmith_59 : decode cX10_addSmith 59 = .ok (.return_, 1) := by decide +kernel
theorem dX10_addHorse_0 : decode cX10_addHorse 0 = .ok (.aload_n 0, 1) := by decide +kernel
theorem dX10_addHorse_1 : decode cX10_addHorse 1 = .ok (.getfield 35, 3) := by decide +kernel
theorem dX10_addHorse_4 : decode cX10_addHorse 4 = .ok (.bipush 10, 2) := by decide +kernel
theorem dX10_addHorse_6 : decode cX10_addHorse 6 = .ok (.if_icmp .ge 23, 3) := by decide +kernel
theorem dX10_addHorse_9 : decode cX10_addHorse 9 = .ok (.aload_n 0, 1) := by decide +kernel
theorem dX10_addHorse_10 : decode cX10_addHorse 10 = .ok (.getfield 15, 3) := by decide +kernel
theorem dX10_addHorse_13 : decode cX10_addHorse 13 = .ok (.aload_n 0, 1) := by decide +kernel
theorem dX10_addHorse_14 : decode cX10_addHorse 14 = .ok (.getfield 35, 3) := by decide +kernel
theorem dX10_addHorse_17 : decode cX10_addHorse 17 = .ok (.lload_n 1, 1) := by decide +kernel
theorem dX10_addHorse_18 : decode cX10_addHorse 18 = .ok (.lastore, 1) := by decide +kernel
theorem dX10_addHorse_19 : decode cX10_addHorse 19 = .ok (.aload_n 0, 1) := by decide +kernel
theorem dX10_addHorse_20 : decode cX10_addHorse 20 = .ok (.dup, 1) := by decide +kernel
theorem dX10_addHorse_21 : decode cX10_addHorse 21 = .ok (.getfield 35, 3) := by decide +kernel
theorem dX10_addHorse_24 : decode cX10_addHorse 24 = .ok (.iconst 1, 1) := by decide +kernel
theorem dX10_addHorse_25 : decode cX10_addHorse 25 = .ok (.iadd, 1) := by decide +kernel
theorem dX10_addHorse_26 : decode cX10_addHorse 26 = .ok (.putfield 35, 3) := by decide +kernel
theorem dX10_addHorse_29 : decode cX10_addHorse 29 = .ok (.return_, 1) := by decide +kernel
theorem dX10_addHours_0 : decode cX10_addHours 0 = .ok (.aload_n 0, 1) := by decide +kernel
theorem dX10_addHours_1 : decode cX10_addHours 1 = .ok (.getfield 25, 3) := by decide +kernel
theorem dX10_addHours_4 : decode cX10_addHours 4 = .ok (.iload_n 1, 1) := by decide +kernel
theorem dX10_addHours_5 : decode cX10_addHours 5 = .ok (.dup2, 1) := by decide +kernel
theorem dX10_addHours_6 : decode cX10_addHours 6 = .ok (.iaload, 1) := by decide +kernel
theorem dX10_addHours_7 : decode cX10_addHours 7 = .ok (.iconst 1, 1) := by decide +kernel
theorem dX10_addHours_8 : decode cX10_addHours 8 = .ok (.iload_n 2, 1) := by decide +kernel
theorem dX10_addHours_9 : decode cX10_addHours 9 = .ok (.ishl, 1) := by decide +kernel
theorem dX10_addHours_10 : decode cX10_addHours 10 = .ok (.ior, 1) := by decide +kernel
theorem dX10_addHours_11 : decode cX10_addHours 11 = .ok (.iastore, 1) := by decide +kernel
theorem dX10_addHours_12 : decode cX10_addHours 12 = .ok (.aload_n 0, 1) := by decide +kernel
theorem dX10_addHours_13 : decode cX10_addHours 13 = .ok (.getfield 28, 3) := by decide +kernel
theorem dX10_addHours_16 : decode cX10_addHours 16 = .ok (.iload_n 1, 1) := by decide +kernel
theorem dX10_addHours_17 : decode cX10_addHours 17 = .ok (.iload_n 2, 1) := by decide +kernel
theorem dX10_addHours_18 : decode cX10_addHours 18 = .ok (.invokestatic 56, 3) := by decide +kernel
theorem dX10_addHours_21 : decode cX10_addHours 21 = .ok (.iload_n 3, 1) := by decide +kernel
theorem dX10_addHours_22 : decode cX10_addHours 22 = .ok (.iastore, 1) := by decide +kernel
theorem dX10_addHours_23 : decode cX10_addHours 23 = .ok (.aload_n 0, 1) := by decide +kernel
theorem dX10_addHours_24 : decode cX10_addHours 24 = .ok (.dup, 1) := by decide +kernel
theorem dX10_addHours_25 : decode cX10_addHours 25 = .ok (.getfield 41, 3) := by decide +kernel
theorem dX10_addHours_28 : decode cX10_addHours 28 = .ok (.iconst 1, 1) := by decide +kernel
theorem dX10_addHours_29 : decode cX10_addHours 29 = .ok (.iadd, 1) := by decide +kernel
theorem dX10_addHours_30 : decode cX10_addHours 30 = .ok (.putfield 41, 3) := by decide +kernel
theorem dX10_addHours_33 : decode cX10_addHours 33 = .ok (.return_, 1) := by decide +kernel
theorem dX10_addLends_0 : decode cX10_addLends 0 = .ok (.aload_n 0, 1) := by decide +kernel
theorem dX10_addLends_1 : decode cX10_addLends 1 = .ok (.getfield 22, 3) := by decide +kernel
theorem dX10_addLends_4 : decode cX10_addLends 4 = .ok (.iload_n 1, 1) := by decide +kernel
theorem dX10_addLends_5 : decode cX10_addLends 5 = .ok (.dup2, 1) := by decide +kernel
theorem dX10_addLends_6 : decode cX10_addLends 6 = .ok (.iaload, 1) := by decide +kernel
theorem dX10_addLends_7 : decode cX10_addLends 7 = .ok (.iconst 1, 1) := by decide +kernel
theorem dX10_addLends_8 : decode cX10_addLends 8 = .ok (.iload_n 2, 1) := by decide +kernel
theorem dX10_addLends_9 : decode cX10_addLends 9 = .ok (.ishl, 1) := by decide +kernel
theorem dX10_addLends_10 : decode cX10_addLends 10 = .ok (.ior, 1) := by decide +kernel
theorem dX10_addLends_11 : decode cX10_addLends 11 = .ok (.iastore, 1) := by decide +kernel
theorem dX10_addLends_12 : decode cX10_addLends 12 = .ok (.aload_n 0, 1) := by decide +kernel
theorem dX10_addLends_13 : decode cX10_addLends 13 = .ok (.dup, 1) := by decide +kernel
theorem dX10_addLends_14 : decode cX10_addLends 14 = .ok (.getfield 44, 3) := by decide +kernel
theorem dX10_addLends_17 : decode cX10_addLends 17 = .ok (.iconst 1, 1) := by decide +kernel
theorem dX10_addLends_18 : decode cX10_addLends 18 = .ok (.iadd, 1) := by decide +kernel
theorem dX10_addLends_19 : decode cX10_addLends 19 = .ok (.putfield 44, 3) := by decide +kernel
theorem dX10_addLends_22 : decode cX10_addLends 22 = .ok (.return_, 1) := by decide +kernel
theorem dX11_init_0 : decode cX11_init 0 = .ok (.aload_n 0, 1) := by decide +kernel
theorem dX11_init_1 : decode cX11_init 1 = .ok (.invokespecial 3, 3) := by decide +kernel
theorem dX11_init_4 : decode cX11_init 4 = .ok (.aload_n 0, 1) := by decide +kernel
theorem dX11_init_5 : decode cX11_init 5 = .ok (.sipush 1700, 3) := by decide +kernel
theorem dX11_init_8 : decode cX11_init 8 = .ok (.newarray .byte, 2) := by decide +kernel
theorem dX11_init_10 : decode cX11_init 10 = .ok (.putfield 9, 3) := by decide +kernel
theorem dX11_init_13 : decode cX11_init 13 = .ok (.aload_n 0, 1) := by decide +kernel
theorem dX11_init_14 : decode cX11_init 14 = .ok (.new 13, 3) := by decide +kernel
theorem dX11_init_17 : decode cX11_init 17 = .ok (.dup, 1) := by decide +kernel
theorem dX11_init_18 : decode cX11_init 18 = .ok (.invokespecial 15, 3) := by decide +kernel
theorem dX11_init_21 : decode cX11_init 21 = .ok (.putfield 16, 3) := by decide +kernel
theorem dX11_init_24 : decode cX11_init 24 = .ok (.aload_n 0, 1) := by decide +kernel
theorem dX11_init_25 : decode cX11_init 25 = .ok (.new 20, 3) := by decide +kernel
theorem dX11_init_28 : decode cX11_init 28 = .ok (.dup, 1) := by decide +kernel
theorem dX11_init_29 : decode cX11_init 29 = .ok (.invokespecial 22, 3) := by decide +kernel
theorem dX11_init_32 : decode cX11_init 32 = .ok (.putfield 23, 3) := by decide +kernel
theorem dX11_init_35 : decode cX11_init 35 = .ok (.aload_n 0, 1) := by decide +kernel
theorem dX11_init_36 : decode cX11_init 36 = .ok (.new 27, 3) := by decide +kernel
theorem dX11_init_39 : decode cX11_init 39 = .ok (.dup, 1) := by decide +kernel
theorem dX11_init_40 : decode cX11_init 40 = .ok (.invokespecial 29, 3) := by decide +kernel
theorem dX11_init_43 : decode cX11_init 43 = .ok (.putfield 30, 3) := by decide +kernel
theorem dX11_init_46 : decode cX11_init 46 = .ok (.aload_n 0, 1) := by decide +kernel
theorem dX11_init_47 : decode cX11_init 47 = .ok (.new 34, 3) := by decide +kernel
theorem dX11_init_50 : decode cX11_init 50 = .ok (.dup, 1) := by decide +kernel
theorem dX11_init_51 : decode cX11_init 51 = .ok (.iconst 3, 1) := by decide +kernel
theorem dX11_init_52 : decode cX11_init 52 = .ok (.invokespecial 36, 3) := by decide +kernel
theorem dX11_init_55 : decode cX11_init 55 = .ok (.putfield 39, 3) := by decide +kernel
theorem dX11_init_58 : decode cX11_init 58 = .ok (.aload_n 0, 1) := by decide +kernel
theorem dX11_init_59 : decode cX11_init 59 = .ok (.new 43, 3) := by decide +kernel
theorem dX11_init_62 : decode cX11_init 62 = .ok (.dup, 1) := by decide +kernel
theorem dX11_init_63 : decode cX11_init 63 = .ok (.invokespecial 45, 3) := by decide +kernel
theorem dX11_init_66 : decode cX11_init 66 = .ok (.putfield 46, 3) := by decide +kernel
theorem dX11_init_69 : decode cX11_init 69 = .ok (.aload_n 0, 1) := by decide +kernel
theorem dX11_init_70 : decode cX11_init 70 = .ok (.new 50, 3) := by decide +kernel
theorem dX11_init_73 : decode cX11_init 73 = .ok (.dup, 1) := by decide +kernel
theorem dX11_init_74 : decode cX11_init 74 = .ok (.invokespecial 52, 3) := by decide +kernel
theorem dX11_init_77 : decode cX11_init 77 = .ok (.putfield 53, 3) := by decide +kernel
theorem dX11_init_80 : decode cX11_init 80 = .ok (.aload_n 0, 1) := by decide +kernel
theorem dX11_init_81 : decode cX11_init 81 = .ok (.new 57, 3) := by decide +kernel
theorem dX11_init_84 : decode cX11_init 84 = .ok (.dup, 1) := by decide +kernel
theorem dX11_init_85 : decode cX11_init 85 = .ok (.invokespecial 59, 3) := by decide +kernel
theorem dX11_init_88 : decode cX11_init 88 = .ok (.putfield 60, 3) := by decide +kernel
theorem dX11_init_91 : decode cX11_init 91 = .ok (.aload_n 0, 1) := by decide +kernel
theorem dX11_init_92 : decode cX11_init 92 = .ok (.new 64, 3) := by decide +kernel
theorem dX11_init_95 : decode cX11_init 95 = .ok (.dup, 1) := by decide +kernel
theorem dX11_init_96 : decode cX11_init 96 = .ok (.invokespecial 66, 3) := by decide +kernel
theorem dX11_init_99 : decode cX11_init 99 = .ok (.putfield 67, 3) := by decide +kernel
theorem dX11_init_102 : decode cX11_init 102 = .ok (.aload_n 0, 1) := by decide +kernel
theorem dX11_init_103 : decode cX11_init 103 = .ok (.bipush 8, 2) := by decide +kernel
theorem dX11_init_105 : decode cX11_init 105 = .ok (.newarray .int, 2) := by decide +kernel
theorem dX11_init_107 : decode cX11_init 107 = .ok (.putfield 71, 3) := by decide +kernel
theorem dX11_init_110 : decode cX11_init 110 = .ok (.aload_n 0, 1) := by decide +kernel
theorem dX11_init_111 : decode cX11_init 111 = .ok (.new 75, 3) := by decide +kernel
theorem dX11_init_114 : decode cX11_init 114 = .ok (.dup, 1) := by decide +kernel
theorem dX11_init_115 : decode cX11_init 115 = .ok (.invokespecial 77, 3) := by decide +kernel
theorem dX11_init_118 : decode cX11_init 118 = .ok (.putfield 78, 3) := by decide +kernel
theorem dX11_init_121 : decode cX11_init 121 = .ok (.aload_n 0, 1) := by decide +kernel
theorem dX11_init_122 : decode cX11_init 122 = .ok (.iconst 0, 1) := by decide +kernel
theorem dX11_init_123 : decode cX11_init 123 = .ok (.putfield 82, 3) := by decide +kernel
theorem dX11_init_126 : decode cX11_init 126 = .ok (.aload_n 0, 1) := by decide +kernel
theorem dX11_init_127 : decode cX11_init 127 = .ok (.iconst 0, 1) := by decide +kernel
theorem dX11_init_128 : decode cX11_init 128 = .ok (.putfield 86, 3) := by decide +kernel
theorem dX11_init_131 : decode cX11_init 131 = .ok (.aload_n 0, 1) := by decide +kernel
theorem dX11_init_132 : decode cX11_init 132 = .ok (.getfield 30, 3) := by decide +kernel
theorem dX11_init_135 : decode cX11_init 135 = .ok (.aload_n 0, 1) := by decide +kernel
theorem dX11_init_136 : decode cX11_init 136 = .ok (.getfield 23, 3) := by decide +kernel
theorem dX11_init_139 : decode cX11_init 139 = .ok (.invokevirtual 89, 3) := by decide +kernel
theorem dX11_init_142 : decode cX11_init 142 = .ok (.return_, 1) := by decide +kernel
theorem dX11_feed_0 : decode cX11_feed 0 = .ok (.aload_n 0, 1) := by decide +kernel
theorem dX11_feed_1 : decode cX11_feed 1 = .ok (.getfield 82, 3) := by decide +kernel
theorem dX11_feed_4 : decode cX11_feed 4 = .ok (.bipush 20, 2) := by decide +kernel
theorem dX11_feed_6 : decode cX11_feed 6 = .ok (.iadd, 1) := by decide +kernel
theorem dX11_feed_7 : decode cX11_feed 7 = .ok (.sipush 1700, 3) := by decide +kernel
theorem dX11_feed_10 : decode cX11_feed 10 = .ok (.if_icmp .le 5, 3) := by decide +kernel
theorem dX11_feed_13 : decode cX11_feed 13 = .ok (.iconst (-1), 1) := by decide +kernel
theorem dX11_feed_14 : decode cX11_feed 14 = .ok (.ireturn, 1) := by decide +kernel
theorem dX11_feed_15 : decode cX11_feed 15 = .ok (.aload_n 0, 1) := by decide +kernel
theorem dX11_feed_16 : decode cX11_feed 16 = .ok (.iload_n 1, 1) := by decide +kernel
theorem dX11_feed_17 : decode cX11_feed 17 = .ok (.invokevirtual 93, 3) := by decide +kernel
theorem dX11_feed_20 : decode cX11_feed 20 = .ok (.aload_n 0, 1) := by decide +kernel
theorem dX11_feed_21 : decode cX11_feed 21 = .ok (.iload_n 2, 1) := by decide +kernel
theorem dX11_feed_22 : decode cX11_feed 22 = .ok (.invokevirtual 93, 3) := by decide +kernel
theorem dX11_feed_25 : decode cX11_feed 25 = .ok (.aload_n 0, 1) := by decide +kernel
theorem dX11_feed_26 : decode cX11_feed 26 = .ok (.iload_n 3, 1) := by decide +kernel
theorem dX11_feed_27 : decode cX11_feed 27 = .ok (.invokevirtual 93, 3) := by decide +kernel
theorem dX11_feed_30 : decode cX11_feed 30 = .ok (.aload_n 0, 1) := by decide +kernel
theorem dX11_feed_31 : decode cX11_feed 31 = .ok (.iload 4, 2) := by decide +kernel
theorem dX11_feed_33 : decode cX11_feed 33 = .ok (.invokevirtual 93, 3) := by decide +kernel
theorem dX11_feed_36 : decode cX11_feed 36 = .ok (.aload_n 0, 1) := by decide +kernel
theorem dX11_feed_37 : decode cX11_feed 37 = .ok (.iload 5, 2) := by decide +kernel
theorem dX11_feed_39 : decode cX11_feed 39 = .ok (.invokevirtual 93, 3) := by decide +kernel
theorem dX11_feed_42 : decode cX11_feed 42 = .ok (.aload_n 0, 1) := by decide +kernel
theorem dX11_feed_43 : decode cX11_feed 43 = .ok (.getfield 82, 3) := by decide +kernel
theorem dX11_feed_46 : decode cX11_feed 46 = .ok (.ireturn, 1) := by decide +kernel
theorem dX11_end_0 : decode cX11_end 0 = .ok (.iload_n 1, 1) := by decide +kernel
theorem dX11_end_1 : decode cX11_end 1 = .ok (.ifCond .lt 11, 3) := by decide +kernel
theorem dX11_end_4 : decode cX11_end 4 = .ok (.iload_n 1, 1) := by decide +kernel
theorem dX11_end_5 : decode cX11_end 5 = .ok (.aload_n 0, 1) := by decide +kernel
theorem dX11_end_6 : decode cX11_end 6 = .ok (.getfield 82, 3) := by decide +kernel
theorem dX11_end_9 : decode cX11_end 9 = .ok (.if_icmp .le 5, 3) := by decide +kernel
theorem dX11_end_12 : decode cX11_end 12 = .ok (.iconst (-1), 1) := by decide +kernel
theorem dX11_end_13 : decode cX11_end 13 = .ok (.ireturn, 1) := by decide +kernel
theorem dX11_end_14 : decode cX11_end 14 = .ok (.aload_n 0, 1) := by decide +kernel
theorem dX11_end_15 : decode cX11_end 15 = .ok (.iload_n 1, 1) := by decide +kernel
theorem dX11_end_16 : decode cX11_end 16 = .ok (.putfield 82, 3) := by decide +kernel
theorem dX11_end_19 : decode cX11_end 19 = .ok (.iload_n 1, 1) := by decide +kernel
theorem dX11_end_20 : decode cX11_end 20 = .ok (.ireturn, 1) := by decide +kernel
theorem dX11_yard_0 : decode cX11_yard 0 = .ok (.aload_n 0, 1) := by decide +kernel
theorem dX11_yard_1 : decode cX11_yard 1 = .ok (.getfield 16, 3) := by decide +kernel
theorem dX11_yard_4 : decode cX11_yard 4 = .ok (.aload_n 0, 1) := by decide +kernel
theorem dX11_yard_5 : decode cX11_yard 5 = .ok (.getfield 9, 3) := by decide +kernel
theorem dX11_yard_8 : decode cX11_yard 8 = .ok (.aload_n 0, 1) := by decide +kernel
theorem dX11_yard_9 : decode cX11_yard 9 = .ok (.getfield 82, 3) := by decide +kernel
theorem dX11_yard_12 : decode cX11_yard 12 = .ok (.invokevirtual 96, 3) := by decide +kernel
theorem dX11_yard_15 : decode cX11_yard 15 = .ok (.aload_n 0, 1) := by decide +kernel
theorem dX11_yard_16 : decode cX11_yard 16 = .ok (.getfield 16, 3) := by decide +kernel
theorem dX11_yard_19 : decode cX11_yard 19 = .ok (.getfield 100, 3) := by decide +kernel
theorem dX11_yard_22 : decode cX11_yard 22 = .ok (.ifCond .eq 5, 3) := by decide +kernel
theorem dX11_yard_25 : decode cX11_yard 25 = .ok (.iconst (-1), 1) := by decide +kernel
theorem dX11_yard_26 : decode cX11_yard 26 = .ok (.ireturn, 1) := by decide +kernel
theorem dX11_yard_27 : decode cX11_yard 27 = .ok (.aload_n 0, 1) := by decide +kernel
theorem dX11_yard_28 : decode cX11_yard 28 = .ok (.aload_n 0, 1) := by decide +kernel
theorem dX11_yard_29 : decode cX11_yard 29 = .ok (.getfield 16, 3) := by decide +kernel
theorem dX11_yard_32 : decode cX11_yard 32 = .ok (.aload_n 0, 1) := by decide +kernel
theorem dX11_yard_33 : decode cX11_yard 33 = .ok (.getfield 78, 3) := by decide +kernel
theorem dX11_yard_36 : decode cX11_yard 36 = .ok (.invokevirtual 103, 3) := by decide +kernel
theorem dX11_yard_39 : decode cX11_yard 39 = .ok (.putfield 78, 3) := by decide +kernel
theorem dX11_yard_42 : decode cX11_yard 42 = .ok (.aload_n 0, 1) := by decide +kernel
theorem dX11_yard_43 : decode cX11_yard 43 = .ok (.iconst 0, 1) := by decide +kernel
theorem dX11_yard_44 : decode cX11_yard 44 = .ok (.putfield 82, 3) := by decide +kernel
theorem dX11_yard_47 : decode cX11_yard 47 = .ok (.aload_n 0, 1) := by decide +kernel
theorem dX11_yard_48 : decode cX11_yard 48 = .ok (.getfield 23, 3) := by decide +kernel
theorem dX11_yard_51 : decode cX11_yard 51 = .ok (.aload_n 0, 1) := by decide +kernel
theorem dX11_yard_52 : decode cX11_yard 52 = .ok (.getfield 78, 3) := by decide +kernel
theorem dX11_yard_55 : decode cX11_yard 55 = .ok (.invokevirtual 107, 3) := by decide +kernel
theorem dX11_yard_58 : decode cX11_yard 58 = .ok (.aload_n 0, 1) := by decide +kernel
theorem dX11_yard_59 : decode cX11_yard 59 = .ok (.getfield 30, 3) := by decide +kernel
theorem dX11_yard_62 : decode cX11_yard 62 = .ok (.aload_n 0, 1) := by decide +kernel
theorem dX11_yard_63 : decode cX11_yard 63 = .ok (.getfield 23, 3) := by decide +kernel
theorem dX11_yard_66 : decode cX11_yard 66 = .ok (.invokevirtual 89, 3) := by decide +kernel
theorem dX11_yard_69 : decode cX11_yard 69 = .ok (.aload_n 0, 1) := by decide +kernel
theorem dX11_yard_70 : decode cX11_yard 70 = .ok (.getfield 39, 3) := by decide +kernel
theorem dX11_yard_73 : decode cX11_yard 73 = .ok (.invokevirtual 111, 3) := by decide +kernel
theorem dX11_yard_76 : decode cX11_yard 76 = .ok (.aload_n 0, 1) := by decide +kernel
theorem dX11_yard_77 : decode cX11_yard 77 = .ok (.getfield 60, 3) := by decide +kernel
theorem dX11_yard_80 : decode cX11_yard 80 = .ok (.iconst 0, 1) := by decide +kernel
theorem dX11_yard_81 : decode cX11_yard 81 = .ok (.putfield 114, 3) := by decide +kernel
theorem dX11_yard_84 : decode cX11_yard 84 = .ok (.aload_n 0, 1) := by decide +kernel
theorem dX11_yard_85 : decode cX11_yard 85 = .ok (.getfield 67, 3) := by decide +kernel
theorem dX11_yard_88 : decode cX11_yard 88 = .ok (.invokevirtual 117, 3) := by decide +kernel
theorem dX11_yard_91 : decode cX11_yard 91 = .ok (.aload_n 0, 1) := by decide +kernel
theorem dX11_yard_92 : decode cX11_yard 92 = .ok (.invokevirtual 119, 3) := by decide +kernel
theorem dX11_yard_95 : decode cX11_yard 95 = .ok (.aload_n 0, 1) := by decide +kernel
theorem dX11_yard_96 : decode cX11_yard 96 = .ok (.getfield 78, 3) := by decide +kernel
theorem dX11_yard_99 : decode cX11_yard 99 = .ok (.getfield 122, 3) := by decide +kernel
theorem dX11_yard_102 : decode cX11_yard 102 = .ok (.ireturn, 1) := by decide +kernel
theorem dX11_fault_0 : decode cX11_fault 0 = .ok (.iload_n 1, 1) := by decide +kernel
theorem dX11_fault_1 : decode cX11_fault 1 = .ok (.ifCond .ne 11, 3) := by decide +kernel
theorem dX11_fault_4 : decode cX11_fault 4 = .ok (.aload_n 0, 1) := by decide +kernel
theorem dX11_fault_5 : decode cX11_fault 5 = .ok (.getfield 16, 3) := by decide +kernel
theorem dX11_fault_8 : decode cX11_fault 8 = .ok (.getfield 100, 3) := by decide +kernel
theorem dX11_fault_11 : decode cX11_fault 11 = .ok (.ireturn, 1) := by decide +kernel
theorem dX11_fault_12 : decode cX11_fault 12 = .ok (.iload_n 1, 1) := by decide +kernel
theorem dX11_fault_13 : decode cX11_fault 13 = .ok (.iconst 1, 1) := by decide +kernel
theorem dX11_fault_14 : decode cX11_fault 14 = .ok (.if_icmp .ne 13, 3) := by decide +kernel
theorem dX11_fault_17 : decode cX11_fault 17 = .ok (.aload_n 0, 1) := by decide +kernel
theorem dX11_fault_18 : decode cX11_fault 18 = .ok (.getfield 16, 3) := by decide +kernel
theorem dX11_fault_21 : decode cX11_fault 21 = .ok (.getfield 125, 3) := by decide +kernel
theorem dX11_fault_24 : decode cX11_fault 24 = .ok (.goto 4, 3) := by decide +kernel
theorem dX11_fault_27 : decode cX11_fault 27 = .ok (.iconst (-1), 1) := by decide +kernel
theorem dX11_fault_28 : decode cX11_fault 28 = .ok (.ireturn, 1) := by decide +kernel
theorem dX11_lacks_0 : decode cX11_lacks 0 = .ok (.aload_n 0, 1) := by decide +kernel
theorem dX11_lacks_1 : decode cX11_lacks 1 = .ok (.iload_n 1, 1) := by decide +kernel
theorem dX11_lacks_2 : decode cX11_lacks 2 = .ok (.iload_n 2, 1) := by decide +kernel
theorem dX11_lacks_3 : decode cX11_lacks 3 = .ok (.invokevirtual 128, 3) := by decide +kernel
theorem dX11_lacks_6 : decode cX11_lacks 6 = .ok (.ifCond .eq 19, 3) := by decide +kernel
theorem dX11_lacks_9 : decode cX11_lacks 9 = .ok (.aload_n 0, 1) := by decide +kernel
theorem dX11_lacks_10 : decode cX11_lacks 10 = .ok (.getfield 23, 3) := by decide +kernel
theorem dX11_lacks_13 : decode cX11_lacks 13 = .ok (.getfield 132, 3) := by decide +kernel
theorem dX11_lacks_16 : decode cX11_lacks 16 = .ok (.iload_n 1, 1) := by decide +kernel
theorem dX11_lacks_17 : decode cX11_lacks 17 = .ok (.iload_n 2, 1) := by decide +kernel
theorem dX11_lacks_18 : decode cX11_lacks 18 = .ok (.invokestatic 135, 3) := by decide +kernel
theorem dX11_lacks_21 : decode cX11_lacks 21 = .ok (.iaload, 1) := by decide +kernel
theorem dX11_lacks_22 : decode cX11_lacks 22 = .ok (.goto 4, 3) := by decide +kernel
theorem dX11_lacks_25 : decode cX11_lacks 25 = .ok (.iconst (-1), 1) := by decide +kernel
theorem dX11_lacks_26 : decode cX11_lacks 26 = .ok (.ireturn, 1) := by decide +kernel
theorem dX11_sum_0 : decode cX11_sum 0 = .ok (.iload_n 2, 1) := by decide +kernel
theorem dX11_sum_1 : decode cX11_sum 1 = .ok (.ifCond .eq 24, 3) := by decide +kernel
theorem dX11_sum_4 : decode cX11_sum 4 = .ok (.aload_n 0, 1) := by decide +kernel
theorem dX11_sum_5 : decode cX11_sum 5 = .ok (.iload_n 1, 1) := by decide +kernel
theorem dX11_sum_6 : decode cX11_sum 6 = .ok (.invokevirtual 139, 3) := by decide +kernel
theorem dX11_sum_9 : decode cX11_sum 9 = .ok (.ifCond .eq 14, 3) := by decide +kernel
theorem dX11_sum_12 : decode cX11_sum 12 = .ok (.aload_n 0, 1) := by decide +kernel
theorem dX11_sum_13 : decode cX11_sum 13 = .ok (.getfield 23, 3) := by decide +kernel
theorem dX11_sum_16 : decode cX11_sum 16 = .ok (.iload_n 1, 1) := by decide +kernel
theorem dX11_sum_17 : decode cX11_sum 17 = .ok (.invokevirtual 143, 3) := by decide +kernel
theorem dX11_sum_20 : decode cX11_sum 20 = .ok (.goto 4, 3) := by decide +kernel
theorem dX11_sum_23 : decode cX11_sum 23 = .ok (.iconst (-1), 1) := by decide +kernel
theorem dX11_sum_24 : decode cX11_sum 24 = .ok (.ireturn, 1) := by decide +kernel
theorem dX11_sum_25 : decode cX11_sum 25 = .ok (.aload_n 0, 1) := by decide +kernel
theorem dX11_sum_26 : decode cX11_sum 26 = .ok (.iload_n 1, 1) := by decide +kernel
theorem dX11_sum_27 : decode cX11_sum 27 = .ok (.invokevirtual 147, 3) := by decide +kernel
theorem dX11_sum_30 : decode cX11_sum 30 = .ok (.ifCond .eq 14, 3) := by decide +kernel
theorem dX11_sum_33 : decode cX11_sum 33 = .ok (.aload_n 0, 1) := by decide +kernel
theorem dX11_sum_34 : decode cX11_sum 34 = .ok (.getfield 23, 3) := by decide +kernel
theorem dX11_sum_37 : decode cX11_sum 37 = .ok (.iload_n 1, 1) := by decide +kernel
theorem dX11_sum_38 : decode cX11_sum 38 = .ok (.invokevirtual 150, 3) := by decide +kernel
theorem dX11_sum_41 : decode cX11_sum 41 = .ok (.goto 4, 3) := by decide +kernel
theorem dX11_sum_44 : decode cX11_sum 44 = .ok (.iconst (-1), 1) := by decide +kernel
theorem dX11_sum_45 : decode cX11_sum 45 = .ok (.ireturn, 1) := by decide +kernel
theorem dX11_least_0 : decode cX11_least 0 = .ok (.aload_n 0, 1) := by decide +kernel
theorem dX11_least_1 : decode cX11_least 1 = .ok (.getfield 23, 3) := by decide +kernel
theorem dX11_least_4 : decode cX11_least 4 = .ok (.invokevirtual 153, 3) := by decide +kernel
theorem dX11_least_7 : decode cX11_least 7 = .ok (.ireturn, 1) := by decide +kernel
theorem dX11_busy_0 : decode cX11_busy 0 = .ok (.aload_n 0, 1) := by decide +kernel
theorem dX11_busy_1 : decode cX11_busy 1 = .ok (.getfield 23, 3) := by decide +kernel
theorem dX11_busy_4 : decode cX11_busy 4 = .ok (.invokevirtual 153, 3) := by decide +kernel
theorem dX11_busy_7 : decode cX11_busy 7 = .ok (.istore_n 2, 1) := by decide +kernel
theorem dX11_busy_8 : decode cX11_busy 8 = .ok (.iload_n 1, 1) := by decide +kernel
theorem dX11_busy_9 : decode cX11_busy 9 = .ok (.ifCond .eq 13, 3) := by decide +kernel
theorem dX11_busy_12 : decode cX11_busy 12 = .ok (.aload_n 0, 1) := by decide +kernel
theorem dX11_busy_13 : decode cX11_busy 13 = .ok (.getfield 78, 3) := by decide +kernel
theorem dX11_busy_16 : decode cX11_busy 16 = .ok (.getfield 157, 3) := by decide +kernel
theorem dX11_busy_19 : decode cX11_busy 19 = .ok (.goto 10, 3) := by decide +kernel
theorem dX11_busy_22 : decode cX11_busy 22 = .ok (.aload_n 0, 1) := by decide +kernel
theorem dX11_busy_23 : decode cX11_busy 23 = .ok (.getfield 78, 3) := by decide +kernel
theorem dX11_busy_26 : decode cX11_busy 26 = .ok (.getfield 122, 3) := by decide +kernel
theorem dX11_busy_29 : decode cX11_busy 29 = .ok (.istore_n 3, 1) := by decide +kernel
theorem dX11_busy_30 : decode cX11_busy 30 = .ok (.iconst 0, 1) := by decide +kernel
theorem dX11_busy_31 : decode cX11_busy 31 = .ok (.istore 4, 2) := by decide +kernel
theorem dX11_busy_33 : decode cX11_busy 33 = .ok (.iconst 0, 1) := by decide +kernel
theorem dX11_busy_34 : decode cX11_busy 34 = .ok (.istore 5, 2) := by decide +kernel
theorem dX11_busy_36 : decode cX11_busy 36 = .ok (.iload 5, 2) := by decide +kernel
theorem dX11_busy_38 : decode cX11_busy 38 = .ok (.iload_n 3, 1) := by decide +kernel
theorem dX11_busy_39 : decode cX11_busy 39 = .ok (.if_icmp .ge 51, 3) := by decide +kernel
theorem dX11_busy_42 : decode cX11_busy 42 = .ok (.iload_n 1, 1) := by decide +kernel
theorem dX11_busy_43 : decode cX11_busy 43 = .ok (.ifCond .eq 15, 3) := by decide +kernel
theorem dX11_busy_46 : decode cX11_busy 46 = .ok (.aload_n 0, 1) := by decide +kernel
theorem dX11_busy_47 : decode cX11_busy 47 = .ok (.getfield 23, 3) := by decide +kernel
theorem dX11_busy_50 : decode cX11_busy 50 = .ok (.iload 5, 2) := by decide +kernel
theorem dX11_busy_52 : decode cX11_busy 52 = .ok (.invokevirtual 143, 3) := by decide +kernel
theorem dX11_busy_55 : decode cX11_busy 55 = .ok (.goto 12, 3) := by decide +kernel
theorem dX11_busy_58 : decode cX11_busy 58 = .ok (.aload_n 0, 1) := by decide +kernel
theorem dX11_busy_59 : decode cX11_busy 59 = .ok (.getfield 23, 3) := by decide +kernel
theorem dX11_busy_62 : decode cX11_busy 62 = .ok (.iload 5, 2) := by decide +kernel
theorem dX11_busy_64 : decode cX11_busy 64 = .ok (.invokevirtual 150, 3) := by decide +kernel
theorem dX11_busy_67 : decode cX11_busy 67 = .ok (.istore 6, 2) := by decide +kernel
theorem dX11_busy_69 : decode cX11_busy 69 = .ok (.iload 6, 2) := by decide +kernel
theorem dX11_busy_71 : decode cX11_busy 71 = .ok (.iload_n 2, 1) := by decide +kernel
theorem dX11_busy_72 : decode cX11_busy 72 = .ok (.if_icmp .ne 12, 3) := by decide +kernel
theorem dX11_busy_75 : decode cX11_busy 75 = .ok (.iload 4, 2) := by decide +kernel
theorem dX11_busy_77 : decode cX11_busy 77 = .ok (.iconst 1, 1) := by decide +kernel
theorem dX11_busy_78 : decode cX11_busy 78 = .ok (.iload 5, 2) := by decide +kernel
theorem dX11_busy_80 : decode cX11_busy 80 = .ok (.ishl, 1) := by decide +kernel
theorem dX11_busy_81 : decode cX11_busy 81 = .ok (.ior, 1) := by decide +kernel
theorem dX11_busy_82 : decode cX11_busy 82 = .ok (.istore 4, 2) := by decide +kernel
theorem dX11_busy_84 : decode cX11_busy 84 = .ok (.iinc 5 1, 3) := by decide +kernel
theorem dX11_busy_87 : decode cX11_busy 87 = .ok (.goto (-51), 3) := by decide +kernel
theorem dX11_busy_90 : decode cX11_busy 90 = .ok (.iload 4, 2) := by decide +kernel
theorem dX11_busy_92 : decode cX11_busy 92 = .ok (.ireturn, 1) := by decide +kernel
theorem dX11_rounds_0 : decode cX11_rounds 0 = .ok (.aload_n 0, 1) := by decide +kernel
theorem dX11_rounds_1 : decode cX11_rounds 1 = .ok (.getfield 46, 3) := by decide +kernel
theorem dX11_rounds_4 : decode cX11_rounds 4 = .ok (.aload_n 0, 1) := by decide +kernel
theorem dX11_rounds_5 : decode cX11_rounds 5 = .ok (.getfield 23, 3) := by decide +kernel
theorem dX11_rounds_8 : decode cX11_rounds 8 = .ok (.invokevirtual 160, 3) := by decide +kernel
theorem dX11_rounds_11 : decode cX11_rounds 11 = .ok (.aload_n 0, 1) := by decide +kernel
theorem dX11_rounds_12 : decode cX11_rounds 12 = .ok (.getfield 46, 3) := by decide +kernel
theorem dX11_rounds_15 : decode cX11_rounds 15 = .ok (.getfield 163, 3) := by decide +kernel
theorem dX11_rounds_18 : decode cX11_rounds 18 = .ok (.ireturn, 1) := by decide +kernel
theorem dX11_lasts_0 : decode cX11_lasts 0 = .ok (.aload_n 0, 1) := by decide +kernel
theorem dX11_lasts_1 : decode cX11_lasts 1 = .ok (.getfield 46, 3) := by decide +kernel
theorem dX11_lasts_4 : decode cX11_lasts 4 = .ok (.aload_n 0, 1) := by decide +kernel
theorem dX11_lasts_5 : decode cX11_lasts 5 = .ok (.getfield 23, 3) := by decide +kernel
theorem dX11_lasts_8 : decode cX11_lasts 8 = .ok (.invokevirtual 160, 3) := by decide +kernel
theorem dX11_lasts_11 : decode cX11_lasts 11 = .ok (.iload_n 1, 1) := by decide +kernel
theorem dX11_lasts_12 : decode cX11_lasts 12 = .ok (.ifCond .lt 26, 3) := by decide +kernel
theorem dX11_lasts_15 : decode cX11_lasts 15 = .ok (.iload_n 1, 1) := by decide +kernel
theorem dX11_lasts_16 : decode cX11_lasts 16 = .ok (.aload_n 0, 1) := by decide +kernel
theorem dX11_lasts_17 : decode cX11_lasts 17 = .ok (.getfield 46, 3) := by decide +kernel
theorem dX11_lasts_20 : decode cX11_lasts 20 = .ok (.getfield 163, 3) := by decide +kernel
theorem dX11_lasts_23 : decode cX11_lasts 23 = .ok (.if_icmp .ge 15, 3) := by decide +kernel
theorem dX11_lasts_26 : decode cX11_lasts 26 = .ok (.aload_n 0, 1) := by decide +kernel
theorem dX11_lasts_27 : decode cX11_lasts 27 = .ok (.getfield 46, 3) := by decide +kernel
theorem dX11_lasts_30 : decode cX11_lasts 30 = .ok (.getfield 166, 3) := by decide +kernel
theorem dX11_lasts_33 : decode cX11_lasts 33 = .ok (.iload_n 1, 1) := by decide +kernel
theorem dX11_lasts_34 : decode cX11_lasts 34 = .ok (.iaload, 1) := by decide +kernel
theorem dX11_lasts_35 : decode cX11_lasts 35 = .ok (.goto 4, 3) := by decide +kernel
theorem dX11_lasts_38 : decode cX11_lasts 38 = .ok (.iconst (-1), 1) := by decide +kernel
theorem dX11_lasts_39 : decode cX11_lasts 39 = .ok (.ireturn, 1) := by decide +kernel
theorem dX11_with_0 : decode cX11_with 0 = .ok (.aload_n 0, 1) := by decide +kernel
theorem dX11_with_1 : decode cX11_with 1 = .ok (.getfield 46, 3) := by decide +kernel
theorem dX11_with_4 : decode cX11_with 4 = .ok (.aload_n 0, 1) := by decide +kernel
theorem dX11_with_5 : decode cX11_with 5 = .ok (.getfield 23, 3) := by decide +kernel
theorem dX11_with_8 : decode cX11_with 8 = .ok (.invokevirtual 160, 3) := by decide +kernel
theorem dX11_with_11 : decode cX11_with 11 = .ok (.iload_n 1, 1) := by decide +kernel
theorem dX11_with_12 : decode cX11_with 12 = .ok (.ifCond .lt 22, 3) := by decide +kernel
theorem dX11_with_15 : decode cX11_with 15 = .ok (.iload_n 1, 1) := by decide +kernel
theorem dX11_with_16 : decode cX11_with 16 = .ok (.aload_n 0, 1) := by decide +kernel
theorem dX11_with_17 : decode cX11_with 17 = .ok (.getfield 46, 3) := by decide +kernel
theorem dX11_with_20 : decode cX11_with 20 = .ok (.getfield 163, 3) := by decide +kernel
theorem dX11_with_23 : decode cX11_with 23 = .ok (.if_icmp .ge 11, 3) := by decide +kernel
theorem dX11_with_26 : decode cX11_with 26 = .ok (.aload_n 0, 1) := by decide +kernel
theorem dX11_with_27 : decode cX11_with 27 = .ok (.iload_n 2, 1) := by decide +kernel
theorem dX11_with_28 : decode cX11_with 28 = .ok (.invokevirtual 147, 3) := by decide +kernel
theorem dX11_with_31 : decode cX11_with 31 = .ok (.ifCond .ne 5, 3) := by decide +kernel
theorem dX11_with_34 : decode cX11_with 34 = .ok (.iconst (-1), 1) := by decide +kernel
theorem dX11_with_35 : decode cX11_with 35 = .ok (.ireturn, 1) := by decide +kernel
theorem dX11_with_36 : decode cX11_with 36 = .ok (.aload_n 0, 1) := by decide +kernel
theorem dX11_with_37 : decode cX11_with 37 = .ok (.getfield 46, 3) := by decide +kernel
theorem dX11_with_40 : decode cX11_with 40 = .ok (.getfield 169, 3) := by decide +kernel
theorem dX11_with_43 : decode cX11_with 43 = .ok (.iload_n 1, 1) := by decide +kernel
theorem dX11_with_44 : decode cX11_with 44 = .ok (.bipush 8, 2) := by decide +kernel
theorem dX11_with_46 : decode cX11_with 46 = .ok (.imul, 1) := by decide +kernel
theorem dX11_with_47 : decode cX11_with 47 = .ok (.iload_n 2, 1) := by decide +kernel
theorem dX11_with_48 : decode cX11_with 48 = .ok (.iadd, 1) := by decide +kernel
theorem dX11_with_49 : decode cX11_with 49 = .ok (.iaload, 1) := by decide +kernel
theorem dX11_with_50 : decode cX11_with 50 = .ok (.ireturn, 1) := by decide +kernel
theorem dX11_wages_0 : decode cX11_wages 0 = .ok (.aload_n 0, 1) := by decide +kernel
theorem dX11_wages_1 : decode cX11_wages 1 = .ok (.getfield 46, 3) := by decide +kernel
theorem dX11_wages_4 : decode cX11_wages 4 = .ok (.aload_n 0, 1) := by decide +kernel
theorem dX11_wages_5 : decode cX11_wages 5 = .ok (.getfield 23, 3) := by decide +kernel
theorem dX11_wages_8 : decode cX11_wages 8 = .ok (.invokevirtual 160, 3) := by decide +kernel
theorem dX11_wages_11 : decode cX11_wages 11 = .ok (.aload_n 0, 1) := by decide +kernel
theorem dX11_wages_12 : decode cX11_wages 12 = .ok (.getfield 46, 3) := by decide +kernel
theorem dX11_wages_15 : decode cX11_wages 15 = .ok (.aload_n 0, 1) := by decide +kernel
theorem dX11_wages_16 : decode cX11_wages 16 = .ok (.getfield 78, 3) := by decide +kernel
theorem dX11_wages_19 : decode cX11_wages 19 = .ok (.aload_n 0, 1) := by decide +kernel
theorem dX11_wages_20 : decode cX11_wages 20 = .ok (.getfield 23, 3) := by decide +kernel
theorem dX11_wages_23 : decode cX11_wages 23 = .ok (.getfield 172, 3) := by decide +kernel
theorem dX11_wages_26 : decode cX11_wages 26 = .ok (.invokevirtual 175, 3) := by decide +kernel
theorem dX11_wages_29 : decode cX11_wages 29 = .ok (.ireturn, 1) := by decide +kernel
theorem dX11_parted_0 : decode cX11_parted 0 = .ok (.iload_n 1, 1) := by decide +kernel
theorem dX11_parted_1 : decode cX11_parted 1 = .ok (.iconst 1, 1) := by decide +kernel
theorem dX11_parted_2 : decode cX11_parted 2 = .ok (.if_icmp .lt 28, 3) := by decide +kernel
theorem dX11_parted_5 : decode cX11_parted 5 = .ok (.iload_n 1, 1) := by decide +kernel
theorem dX11_parted_6 : decode cX11_parted 6 = .ok (.bipush 9, 2) := by decide +kernel
theorem dX11_parted_8 : decode cX11_parted 8 = .ok (.if_icmp .gt 22, 3) := by decide +kernel
theorem dX11_parted_11 : decode cX11_parted 11 = .ok (.iload_n 2, 1) := by decide +kernel
theorem dX11_parted_12 : decode cX11_parted 12 = .ok (.ifCond .lt 18, 3) := by decide +kernel
theorem dX11_parted_15 : decode cX11_parted 15 = .ok (.iload_n 2, 1) := by decide +kernel
theorem dX11_parted_16 : decode cX11_parted 16 = .ok (.iload_n 1, 1) := by decide +kernel
theorem dX11_parted_17 : decode cX11_parted 17 = .ok (.if_icmp .ge 13, 3) := by decide +kernel
theorem dX11_parted_20 : decode cX11_parted 20 = .ok (.aload_n 0, 1) := by decide +kernel
theorem dX11_parted_21 : decode cX11_parted 21 = .ok (.iload_n 3, 1) := by decide +kernel
theorem dX11_parted_22 : decode cX11_parted 22 = .ok (.iload 4, 2) := by decide +kernel
theorem dX11_parted_24 : decode cX11_parted 24 = .ok (.invokevirtual 128, 3) := by decide +kernel
theorem dX11_parted_27 : decode cX11_parted 27 = .ok (.ifCond .ne 5, 3) := by decide +kernel
theorem dX11_parted_30 : decode cX11_parted 30 = .ok (.iconst (-1), 1) := by decide +kernel
theorem dX11_parted_31 : decode cX11_parted 31 = .ok (.ireturn, 1) := by decide +kernel
theorem dX11_parted_32 : decode cX11_parted 32 = .ok (.aload_n 0, 1) := by decide +kernel
theorem dX11_parted_33 : decode cX11_parted 33 = .ok (.getfield 53, 3) := by decide +kernel
theorem dX11_parted_36 : decode cX11_parted 36 = .ok (.iload_n 1, 1) := by decide +kernel
theorem dX11_parted_37 : decode cX11_parted 37 = .ok (.aload_n 0, 1) := by decide +kernel
theorem dX11_parted_38 : decode cX11_parted 38 = .ok (.getfield 23, 3) := by decide +kernel
theorem dX11_parted_41 : decode cX11_parted 41 = .ok (.invokevirtual 179, 3) := by decide +kernel
theorem dX11_parted_44 : decode cX11_parted 44 = .ok (.aload_n 0, 1) := by decide +kernel
theorem dX11_parted_45 : decode cX11_parted 45 = .ok (.getfield 53, 3) := by decide +kernel
theorem dX11_parted_48 : decode cX11_parted 48 = .ok (.getfield 183, 3) := by decide +kernel
theorem dX11_parted_51 : decode cX11_parted 51 = .ok (.iload_n 2, 1) := by decide +kernel
theorem dX11_parted_52 : decode cX11_parted 52 = .ok (.bipush 80, 2) := by decide +kernel
theorem dX11_parted_54 : decode cX11_parted 54 = .ok (.imul, 1) := by decide +kernel
theorem dX11_parted_55 : decode cX11_parted 55 = .ok (.iload_n 3, 1) := by decide +kernel
theorem dX11_parted_56 : decode cX11_parted 56 = .ok (.iload 4, 2) := by decide +kernel
theorem dX11_parted_58 : decode cX11_parted 58 = .ok (.invokestatic 135, 3) := by decide +kernel
theorem dX11_parted_61 : decode cX11_parted 61 = .ok (.iadd, 1) := by decide +kernel
theorem dX11_parted_62 : decode cX11_parted 62 = .ok (.iaload, 1) := by decide +kernel
theorem dX11_parted_63 : decode cX11_parted 63 = .ok (.ireturn, 1) := by decide +kernel
theorem dX11_even_0 : decode cX11_even 0 = .ok (.aload_n 0, 1) := by decide +kernel
theorem dX11_even_1 : decode cX11_even 1 = .ok (.invokevirtual 186, 3) := by decide +kernel
theorem dX11_even_4 : decode cX11_even 4 = .ok (.aload_n 0, 1) := by decide +kernel
theorem dX11_even_5 : decode cX11_even 5 = .ok (.aload_n 0, 1) := by decide +kernel
theorem dX11_even_6 : decode cX11_even 6 = .ok (.invokevirtual 189, 3) := by decide +kernel
theorem dX11_even_9 : decode cX11_even 9 = .ok (.invokevirtual 192, 3) := by decide +kernel
theorem dX11_even_12 : decode cX11_even 12 = .ok (.ireturn, 1) := by decide +kernel
theorem dX11_proof_0 : decode cX11_proof 0 = .ok (.aload_n 0, 1) := by decide +kernel
theorem dX11_proof_1 : decode cX11_proof 1 = .ok (.invokevirtual 186, 3) := by decide +kernel
theorem dX11_proof_4 : decode cX11_proof 4 = .ok (.aload_n 0, 1) := by decide +kernel
theorem dX11_proof_5 : decode cX11_proof 5 = .ok (.invokevirtual 189, 3) := by decide +kernel
theorem dX11_proof_8 : decode cX11_proof 8 = .ok (.ireturn, 1) := by decide +kernel
theorem dX11_run_0 : decode cX11_run 0 = .ok (.iload_n 1, 1) := by decide +kernel
theorem dX11_run_1 : decode cX11_run 1 = .ok (.iconst 1, 1) := by decide +kernel
theorem dX11_run_2 : decode cX11_run 2 = .ok (.if_icmp .lt 10, 3) := by decide +kernel
theorem dX11_run_5 : decode cX11_run 5 = .ok (.iload_n 1, 1) := by decide +kernel
theorem dX11_run_6 : decode cX11_run 6 = .ok (.sipush 999, 3) := by decide +kernel
theorem dX11_run_9 : decode cX11_run 9 = .ok (.if_icmp .le 5, 3) := by decide +kernel
theorem dX11_run_12 : decode cX11_run 12 = .ok (.iconst (-1), 1) := by decide +kernel
theorem dX11_run_13 : decode cX11_run 13 = .ok (.ireturn, 1) := by decide +kernel
theorem dX11_run_14 : decode cX11_run 14 = .ok (.aload_n 0, 1) := by decide +kernel
theorem dX11_run_15 : decode cX11_run 15 = .ok (.getfield 46, 3) := by decide +kernel
theorem dX11_run_18 : decode cX11_run 18 = .ok (.aload_n 0, 1) := by decide +kernel
theorem dX11_run_19 : decode cX11_run 19 = .ok (.getfield 23, 3) := by decide +kernel
theorem dX11_run_22 : decode cX11_run 22 = .ok (.getfield 132, 3) := by decide +kernel
theorem dX11_run_25 : decode cX11_run 25 = .ok (.aload_n 0, 1) := by decide +kernel
theorem dX11_run_26 : decode cX11_run 26 = .ok (.getfield 23, 3) := by decide +kernel
theorem dX11_run_29 : decode cX11_run 29 = .ok (.getfield 195, 3) := by decide +kernel
theorem dX11_run_32 : decode cX11_run 32 = .ok (.aload_n 0, 1) := by decide +kernel
theorem dX11_run_33 : decode cX11_run 33 = .ok (.getfield 23, 3) := by decide +kernel
theorem dX11_run_36 : decode cX11_run 36 = .ok (.getfield 196, 3) := by decide +kernel
theorem dX11_run_39 : decode cX11_run 39 = .ok (.invokevirtual 197, 3) := by decide +kernel
theorem dX11_run_42 : decode cX11_run 42 = .ok (.aload_n 0, 1) := by decide +kernel
theorem dX11_run_43 : decode cX11_run 43 = .ok (.getfield 46, 3) := by decide +kernel
theorem dX11_run_46 : decode cX11_run 46 = .ok (.iload_n 1, 1) := by decide +kernel
theorem dX11_run_47 : decode cX11_run 47 = .ok (.invokevirtual 201, 3) := by decide +kernel
theorem dX11_run_50 : decode cX11_run 50 = .ok (.istore_n 2, 1) := by decide +kernel
theorem dX11_run_51 : decode cX11_run 51 = .ok (.aload_n 0, 1) := by decide +kernel
theorem dX11_run_52 : decode cX11_run 52 = .ok (.getfield 46, 3) := by decide +kernel
theorem dX11_run_55 : decode cX11_run 55 = .ok (.getfield 204, 3) := by decide +kernel
theorem dX11_run_58 : decode cX11_run 58 = .ok (.iconst 0, 1) := by decide +kernel
theorem dX11_run_59 : decode cX11_run 59 = .ok (.aload_n 0, 1) := by decide +kernel
theorem dX11_run_60 : decode cX11_run 60 = .ok (.getfield 23, 3) := by decide +kernel
theorem dX11_run_63 : decode cX11_run 63 = .ok (.getfield 132, 3) := by decide +kernel
theorem dX11_run_66 : decode cX11_run 66 = .ok (.iconst 0, 1) := by decide +kernel
theorem dX11_run_67 : decode cX11_run 67 = .ok (.bipush 80, 2) := by decide +kernel
theorem dX11_run_69 : decode cX11_run 69 = .ok (.invokestatic 207, 3) := by decide +kernel
theorem dX11_run_72 : decode cX11_run 72 = .ok (.aload_n 0, 1) := by decide +kernel
theorem dX11_run_73 : decode cX11_run 73 = .ok (.getfield 23, 3) := by decide +kernel
theorem dX11_run_76 : decode cX11_run 76 = .ok (.dup, 1) := by decide +kernel
theorem dX11_run_77 : decode cX11_run 77 = .ok (.getfield 172, 3) := by decide +kernel
theorem dX11_run_80 : decode cX11_run 80 = .ok (.iload_n 2, 1) := by decide +kernel
theorem dX11_run_81 : decode cX11_run 81 = .ok (.iadd, 1) := by decide +kernel
theorem dX11_run_82 : decode cX11_run 82 = .ok (.putfield 172, 3) := by decide +kernel
theorem dX11_run_85 : decode cX11_run 85 = .ok (.aload_n 0, 1) := by decide +kernel
theorem dX11_run_86 : decode cX11_run 86 = .ok (.invokevirtual 213, 3) := by decide +kernel
theorem dX11_run_89 : decode cX11_run 89 = .ok (.iload_n 2, 1) := by decide +kernel
theorem dX11_run_90 : decode cX11_run 90 = .ok (.ireturn, 1) := by decide +kernel
theorem dX11_more_0 : decode cX11_more 0 = .ok (.aload_n 0, 1) := by decide +kernel
theorem dX11_more_1 : decode cX11_more 1 = .ok (.iload_n 1, 1) := by decide +kernel
theorem dX11_more_2 : decode cX11_more 2 = .ok (.iload_n 2, 1) := by decide +kernel
theorem dX11_more_3 : decode cX11_more 3 = .ok (.invokevirtual 128, 3) := by decide +kernel
theorem dX11_more_6 : decode cX11_more 6 = .ok (.ifCond .eq 15, 3) := by decide +kernel
theorem dX11_more_9 : decode cX11_more 9 = .ok (.iload_n 3, 1) := by decide +kernel
theorem dX11_more_10 : decode cX11_more 10 = .ok (.bipush (-99), 2) := by decide +kernel
theorem dX11_more_12 : decode cX11_more 12 = .ok (.if_icmp .lt 9, 3) := by decide +kernel
theorem dX11_more_15 : decode cX11_more 15 = .ok (.iload_n 3, 1) := by decide +kernel
theorem dX11_more_16 : decode cX11_more 16 = .ok (.bipush 99, 2) := by decide +kernel
theorem dX11_more_18 : decode cX11_more 18 = .ok (.if_icmp .le 5, 3) := by decide +kernel
theorem dX11_more_21 : decode cX11_more 21 = .ok (.iconst (-1), 1) := by decide +kernel
theorem dX11_more_22 : decode cX11_more 22 = .ok (.ireturn, 1) := by decide +kernel
theorem dX11_more_23 : decode cX11_more 23 = .ok (.iload_n 1, 1) := by decide +kernel
theorem dX11_more_24 : decode cX11_more 24 = .ok (.iload_n 2, 1) := by decide +kernel
theorem dX11_more_25 : decode cX11_more 25 = .ok (.invokestatic 135, 3) := by decide +kernel
theorem dX11_more_28 : decode cX11_more 28 = .ok (.istore 4, 2) := by decide +kernel
theorem dX11_more_30 : decode cX11_more 30 = .ok (.aload_n 0, 1) := by decide +kernel
theorem dX11_more_31 : decode cX11_more 31 = .ok (.getfield 23, 3) := by decide +kernel
theorem dX11_more_34 : decode cX11_more 34 = .ok (.getfield 132, 3) := by decide +kernel
theorem dX11_more_37 : decode cX11_more 37 = .ok (.iload 4, 2) := by decide +kernel
theorem dX11_more_39 : decode cX11_more 39 = .ok (.iaload, 1) := by decide +kernel
theorem dX11_more_40 : decode cX11_more 40 = .ok (.iload_n 3, 1) := by decide +kernel
theorem dX11_more_41 : decode cX11_more 41 = .ok (.iadd, 1) := by decide +kernel
theorem dX11_more_42 : decode cX11_more 42 = .ok (.istore 5, 2) := by decide +kernel
theorem dX11_more_44 : decode cX11_more 44 = .ok (.iload 5, 2) := by decide +kernel
theorem dX11_more_46 : decode cX11_more 46 = .ok (.ifCond .lt 10, 3) := by decide +kernel
theorem dX11_more_49 : decode cX11_more 49 = .ok (.iload 5, 2) := by decide +kernel
theorem dX11_more_51 : decode cX11_more 51 = .ok (.bipush 99, 2) := by decide +kernel
theorem dX11_more_53 : decode cX11_more 53 = .ok (.if_icmp .le 5, 3) := by decide +kernel
theorem dX11_more_56 : decode cX11_more 56 = .ok (.iconst (-1), 1) := by decide +kernel
theorem dX11_more_57 : decode cX11_more 57 = .ok (.ireturn, 1) := by decide +kernel
theorem dX11_more_58 : decode cX11_more 58 = .ok (.aload_n 0, 1) := by decide +kernel
theorem dX11_more_59 : decode cX11_more 59 = .ok (.getfield 23, 3) := by decide +kernel
theorem dX11_more_62 : decode cX11_more 62 = .ok (.getfield 132, 3) := by decide +kernel
theorem dX11_more_65 : decode cX11_more 65 = .ok (.iload 4, 2) := by decide +kernel
theorem dX11_more_67 : decode cX11_more 67 = .ok (.iload 5, 2) := by decide +kernel
theorem dX11_more_69 : decode cX11_more 69 = .ok (.iastore, 1) := by decide +kernel
theorem dX11_more_70 : decode cX11_more 70 = .ok (.aload_n 0, 1) := by decide +kernel
theorem dX11_more_71 : decode cX11_more 71 = .ok (.invokevirtual 213, 3) := by decide +kernel
theorem dX11_more_74 : decode cX11_more 74 = .ok (.iload 5, 2) := by decide +kernel
theorem dX11_more_76 : decode cX11_more 76 = .ok (.ireturn, 1) := by decide +kernel
theorem dX11_breaks_0 : decode cX11_breaks 0 = .ok (.aload_n 0, 1) := by decide +kernel
theorem dX11_breaks_1 : decode cX11_breaks 1 = .ok (.iload_n 1, 1) := by decide +kernel
theorem dX11_breaks_2 : decode cX11_breaks 2 = .ok (.invokevirtual 147, 3) := by decide +kernel
theorem dX11_breaks_5 : decode cX11_breaks 5 = .ok (.ifCond .eq 28, 3) := by decide +kernel
theorem dX11_breaks_8 : decode cX11_breaks 8 = .ok (.aload_n 0, 1) := by decide +kernel
theorem dX11_breaks_9 : decode cX11_breaks 9 = .ok (.iload_n 2, 1) := by decide +kernel
theorem dX11_breaks_10 : decode cX11_breaks 10 = .ok (.invokevirtual 147, 3) := by decide +kernel
theorem dX11_breaks_13 : decode cX11_breaks 13 = .ok (.ifCond .eq 20, 3) := by decide +kernel
theorem dX11_breaks_16 : decode cX11_breaks 16 = .ok (.iload_n 1, 1) := by decide +kernel
theorem dX11_breaks_17 : decode cX11_breaks 17 = .ok (.iload_n 2, 1) := by decide +kernel
theorem dX11_breaks_18 : decode cX11_breaks 18 = .ok (.if_icmp .eq 15, 3) := by decide +kernel
theorem dX11_breaks_21 : decode cX11_breaks 21 = .ok (.aload_n 0, 1) := by decide +kernel
theorem dX11_breaks_22 : decode cX11_breaks 22 = .ok (.getfield 23, 3) := by decide +kernel
theorem dX11_breaks_25 : decode cX11_breaks 25 = .ok (.iload_n 1, 1) := by decide +kernel
theorem dX11_breaks_26 : decode cX11_breaks 26 = .ok (.iload_n 2, 1) := by decide +kernel
theorem dX11_breaks_27 : decode cX11_breaks 27 = .ok (.invokevirtual 216, 3) := by decide +kernel
theorem dX11_breaks_30 : decode cX11_breaks 30 = .ok (.ifCond .ne 5, 3) := by decide +kernel
theorem dX11_breaks_33 : decode cX11_breaks 33 = .ok (.iconst (-1), 1) := by decide +kernel
theorem dX11_breaks_34 : decode cX11_breaks 34 = .ok (.ireturn, 1) := by decide +kernel
theorem dX11_breaks_35 : decode cX11_breaks 35 = .ok (.aload_n 0, 1) := by decide +kernel
theorem dX11_breaks_36 : decode cX11_breaks 36 = .ok (.getfield 23, 3) := by decide +kernel
theorem dX11_breaks_39 : decode cX11_breaks 39 = .ok (.iload_n 1, 1) := by decide +kernel
theorem dX11_breaks_40 : decode cX11_breaks 40 = .ok (.iload_n 2, 1) := by decide +kernel
theorem dX11_breaks_41 : decode cX11_breaks 41 = .ok (.invokevirtual 219, 3) := by decide +kernel
theorem dX11_breaks_44 : decode cX11_breaks 44 = .ok (.istore_n 3, 1) := by decide +kernel
theorem dX11_breaks_45 : decode cX11_breaks 45 = .ok (.aload_n 0, 1) := by decide +kernel
theorem dX11_breaks_46 : decode cX11_breaks 46 = .ok (.invokevirtual 213, 3) := by decide +kernel
theorem dX11_breaks_49 : decode cX11_breaks 49 = .ok (.iload_n 3, 1) := by decide +kernel
theorem dX11_breaks_50 : decode cX11_breaks 50 = .ok (.ireturn, 1) := by decide +kernel
theorem dX11_undo_0 : decode cX11_undo 0 = .ok (.aload_n 0, 1) := by decide +kernel
theorem dX11_undo_1 : decode cX11_undo 1 = .ok (.getfield 30, 3) := by decide +kernel
theorem dX11_undo_4 : decode cX11_undo 4 = .ok (.aload_n 0, 1) := by decide +kernel
theorem dX11_undo_5 : decode cX11_undo 5 = .ok (.getfield 23, 3) := by decide +kernel
theorem dX11_undo_8 : decode cX11_undo 8 = .ok (.invokevirtual 222, 3) := by decide +kernel
theorem dX11_undo_11 : decode cX11_undo 11 = .ok (.istore_n 1, 1) := by decide +kernel
theorem dX11_undo_12 : decode cX11_undo 12 = .ok (.aload_n 0, 1) := by decide +kernel
theorem dX11_undo_13 : decode cX11_undo 13 = .ok (.invokevirtual 119, 3) := by decide +kernel
theorem dX11_undo_16 : decode cX11_undo 16 = .ok (.iload_n 1, 1) := by decide +kernel
theorem dX11_undo_17 : decode cX11_undo 17 = .ok (.ireturn, 1) := by decide +kernel
theorem dX11_redo_0 : decode cX11_redo 0 = .ok (.aload_n 0, 1) := by decide +kernel
theorem dX11_redo_1 : decode cX11_redo 1 = .ok (.getfield 30, 3) := by decide +kernel
theorem dX11_redo_4 : decode cX11_redo 4 = .ok (.aload_n 0, 1) := by decide +kernel
theorem dX11_redo_5 : decode cX11_redo 5 = .ok (.getfield 23, 3) := by decide +kernel
theorem dX11_redo_8 : decode cX11_redo 8 = .ok (.invokevirtual 226, 3) := by decide +kernel
theorem dX11_redo_11 : decode cX11_redo 11 = .ok (.istore_n 1, 1) := by decide +kernel
theorem dX11_redo_12 : decode cX11_redo 12 = .ok (.aload_n 0, 1) := by decide +kernel
theorem dX11_redo_13 : decode cX11_redo 13 = .ok (.invokevirtual 119, 3) := by decide +kernel
theorem dX11_redo_16 : decode cX11_redo 16 = .ok (.iload_n 1, 1) := by decide +kernel
theorem dX11_redo_17 : decode cX11_redo 17 = .ok (.ireturn, 1) := by decide +kernel
theorem dX11_round_0 : decode cX11_round 0 = .ok (.iload_n 1, 1) := by decide +kernel
theorem dX11_round_1 : decode cX11_round 1 = .ok (.iconst 1, 1) := by decide +kernel
theorem dX11_round_2 : decode cX11_round 2 = .ok (.if_icmp .lt 9, 3) := by decide +kernel
theorem dX11_round_5 : decode cX11_round 5 = .ok (.iload_n 1, 1) := by decide +kernel
theorem dX11_round_6 : decode cX11_round 6 = .ok (.bipush 99, 2) := by decide +kernel
theorem dX11_round_8 : decode cX11_round 8 = .ok (.if_icmp .le 7, 3) := by decide +kernel
theorem dX11_round_11 : decode cX11_round 11 = .ok (.iconst (-1), 1) := by decide +kernel
theorem dX11_round_12 : decode cX11_round 12 = .ok (.goto 11, 3) := by decide +kernel
theorem dX11_round_15 : decode cX11_round 15 = .ok (.aload_n 0, 1) := by decide +kernel
theorem dX11_round_16 : decode cX11_round 16 = .ok (.getfield 60, 3) := by decide +kernel
theorem dX11_round_19 : decode cX11_round 19 = .ok (.iload_n 1, 1) := by decide +kernel
theorem dX11_round_20 : decode cX11_round 20 = .ok (.invokevirtual 229, 3) := by decide +kernel
theorem dX11_round_23 : decode cX11_round 23 = .ok (.ireturn, 1) := by decide +kernel
theorem dX11_pair_0 : decode cX11_pair 0 = .ok (.aload_n 0, 1) := by decide +kernel
theorem dX11_pair_1 : decode cX11_pair 1 = .ok (.iload_n 1, 1) := by decide +kernel
theorem dX11_pair_2 : decode cX11_pair 2 = .ok (.iload_n 2, 1) := by decide +kernel
theorem dX11_pair_3 : decode cX11_pair 3 = .ok (.invokevirtual 128, 3) := by decide +kernel
theorem dX11_pair_6 : decode cX11_pair 6 = .ok (.ifCond .eq 18, 3) := by decide +kernel
theorem dX11_pair_9 : decode cX11_pair 9 = .ok (.aload_n 0, 1) := by decide +kernel
theorem dX11_pair_10 : decode cX11_pair 10 = .ok (.getfield 60, 3) := by decide +kernel
theorem dX11_pair_13 : decode cX11_pair 13 = .ok (.iload_n 1, 1) := by decide +kernel
theorem dX11_pair_14 : decode cX11_pair 14 = .ok (.iload_n 2, 1) := by decide +kernel
theorem dX11_pair_15 : decode cX11_pair 15 = .ok (.invokestatic 135, 3) := by decide +kernel
theorem dX11_pair_18 : decode cX11_pair 18 = .ok (.invokevirtual 232, 3) := by decide +kernel
theorem dX11_pair_21 : decode cX11_pair 21 = .ok (.goto 4, 3) := by decide +kernel
theorem dX11_pair_24 : decode cX11_pair 24 = .ok (.iconst (-1), 1) := by decide +kernel
theorem dX11_pair_25 : decode cX11_pair 25 = .ok (.ireturn, 1) := by decide +kernel
theorem dX11_hush_0 : decode cX11_hush 0 = .ok (.aload_n 0, 1) := by decide +kernel
theorem dX11_hush_1 : decode cX11_hush 1 = .ok (.getfield 60, 3) := by decide +kernel
theorem dX11_hush_4 : decode cX11_hush 4 = .ok (.getfield 114, 3) := by decide +kernel
theorem dX11_hush_7 : decode cX11_hush 7 = .ok (.istore_n 1, 1) := by decide +kernel
theorem dX11_hush_8 : decode cX11_hush 8 = .ok (.aload_n 0, 1) := by decide +kernel
theorem dX11_hush_9 : decode cX11_hush 9 = .ok (.getfield 60, 3) := by decide +kernel
theorem dX11_hush_12 : decode cX11_hush 12 = .ok (.iconst 0, 1) := by decide +kernel
theorem dX11_hush_13 : decode cX11_hush 13 = .ok (.putfield 114, 3) := by decide +kernel
theorem dX11_hush_16 : decode cX11_hush 16 = .ok (.iload_n 1, 1) := by decide +kernel
theorem dX11_hush_17 : decode cX11_hush 17 = .ok (.ireturn, 1) := by decide +kernel
theorem dX11_judge_0 : decode cX11_judge 0 = .ok (.iload_n 1, 1) := by decide +kernel
theorem dX11_judge_1 : decode cX11_judge 1 = .ok (.ifCond .lt 8, 3) := by decide +kernel
theorem dX11_judge_4 : decode cX11_judge 4 = .ok (.iload_n 1, 1) := by decide +kernel
theorem dX11_judge_5 : decode cX11_judge 5 = .ok (.iconst 2, 1) := by decide +kernel
theorem dX11_judge_6 : decode cX11_judge 6 = .ok (.if_icmp .le 5, 3) := by decide +kernel
theorem dX11_judge_9 : decode cX11_judge 9 = .ok (.iconst (-1), 1) := by decide +kernel
theorem dX11_judge_10 : decode cX11_judge 10 = .ok (.ireturn, 1) := by decide +kernel
theorem dX11_judge_11 : decode cX11_judge 11 = .ok (.aload_n 0, 1) := by decide +kernel
theorem dX11_judge_12 : decode cX11_judge 12 = .ok (.getfield 60, 3) := by decide +kernel
theorem dX11_judge_15 : decode cX11_judge 15 = .ok (.aload_n 0, 1) := by decide +kernel
theorem dX11_judge_16 : decode cX11_judge 16 = .ok (.getfield 23, 3) := by decide +kernel
theorem dX11_judge_19 : decode cX11_judge 19 = .ok (.invokevirtual 235, 3) := by decide +kernel
theorem dX11_judge_22 : decode cX11_judge 22 = .ok (.iload_n 1, 1) := by decide +kernel
theorem dX11_judge_23 : decode cX11_judge 23 = .ok (.ifCond .ne 11, 3) := by decide +kernel
theorem dX11_judge_26 : decode cX11_judge 26 = .ok (.aload_n 0, 1) := by decide +kernel
theorem dX11_judge_27 : decode cX11_judge 27 = .ok (.getfield 60, 3) := by decide +kernel
theorem dX11_judge_30 : decode cX11_judge 30 = .ok (.getfield 238, 3) := by decide +kernel
theorem dX11_judge_33 : decode cX11_judge 33 = .ok (.ireturn, 1) := by decide +kernel
theorem dX11_judge_34 : decode cX11_judge 34 = .ok (.iload_n 1, 1) := by decide +kernel
theorem dX11_judge_35 : decode cX11_judge 35 = .ok (.iconst 1, 1) := by decide +kernel
theorem dX11_judge_36 : decode cX11_judge 36 = .ok (.if_icmp .ne 13, 3) := by decide +kernel
theorem dX11_judge_39 : decode cX11_judge 39 = .ok (.aload_n 0, 1) := by decide +kernel
theorem dX11_judge_40 : decode cX11_judge 40 = .ok (.getfield 60, 3) := by decide +kernel
theorem dX11_judge_43 : decode cX11_judge 43 = .ok (.getfield 241, 3) := by decide +kernel
theorem dX11_judge_46 : decode cX11_judge 46 = .ok (.goto 10, 3) := by decide +kernel
theorem dX11_judge_49 : decode cX11_judge 49 = .ok (.aload_n 0, 1) := by decide +kernel
theorem dX11_judge_50 : decode cX11_judge 50 = .ok (.getfield 60, 3) := by decide +kernel
theorem dX11_judge_53 : decode cX11_judge 53 = .ok (.getfield 244, 3) := by decide +kernel
theorem dX11_judge_56 : decode cX11_judge 56 = .ok (.ireturn, 1) := by decide +kernel
theorem dX11_sight_0 : decode cX11_sight 0 = .ok (.iload_n 3, 1) := by decide +kernel
theorem dX11_sight_1 : decode cX11_sight 1 = .ok (.iconst (-1), 1) := by decide +kernel
theorem dX11_sight_2 : decode cX11_sight 2 = .ok (.if_icmp .eq 11, 3) := by decide +kernel
theorem dX11_sight_5 : decode cX11_sight 5 = .ok (.aload_n 0, 1) := by decide +kernel
theorem dX11_sight_6 : decode cX11_sight 6 = .ok (.iload_n 3, 1) := by decide +kernel
theorem dX11_sight_7 : decode cX11_sight 7 = .ok (.invokevirtual 139, 3) := by decide +kernel
theorem dX11_sight_10 : decode cX11_sight 10 = .ok (.ifCond .eq 7, 3) := by decide +kernel
theorem dX11_sight_13 : decode cX11_sight 13 = .ok (.iconst 1, 1) := by decide +kernel
theorem dX11_sight_14 : decode cX11_sight 14 = .ok (.goto 4, 3) := by decide +kernel
theorem dX11_sight_17 : decode cX11_sight 17 = .ok (.iconst 0, 1) := by decide +kernel
theorem dX11_sight_18 : decode cX11_sight 18 = .ok (.istore 4, 2) := by decide +kernel
theorem dX11_sight_20 : decode cX11_sight 20 = .ok (.iload_n 1, 1) := by decide +kernel
theorem dX11_sight_21 : decode cX11_sight 21 = .ok (.ifCond .lt 23, 3) := by decide +kernel
theorem dX11_sight_24 : decode cX11_sight 24 = .ok (.iload_n 1, 1) := by decide +kernel
theorem dX11_sight_25 : decode cX11_sight 25 = .ok (.sipush 999, 3) := by decide +kernel
theorem dX11_sight_28 : decode cX11_sight 28 = .ok (.if_icmp .gt 16, 3) := by decide +kernel
theorem dX11_sight_31 : decode cX11_sight 31 = .ok (.aload_n 0, 1) := by decide +kernel
theorem dX11_sight_32 : decode cX11_sight 32 = .ok (.iload_n 2, 1) := by decide +kernel
theorem dX11_sight_33 : decode cX11_sight 33 = .ok (.invokevirtual 147, 3) := by decide +kernel
theorem dX11_sight_36 : decode cX11_sight 36 = .ok (.ifCond .eq 8, 3) := by decide +kernel
theorem dX11_sight_39 : decode cX11_sight 39 = .ok (.iload 4, 2) := by decide +kernel
theorem dX11_sight_41 : decode cX11_sight 41 = .ok (.ifCond .ne 5, 3) := by decide +kernel
theorem dX11_sight_44 : decode cX11_sight 44 = .ok (.iconst (-1), 1) := by decide +kernel
theorem dX11_sight_45 : decode cX11_sight 45 = .ok (.ireturn, 1) := by decide +kernel
theorem dX11_sight_46 : decode cX11_sight 46 = .ok (.aload_n 0, 1) := by decide +kernel
theorem dX11_sight_47 : decode cX11_sight 47 = .ok (.getfield 67, 3) := by decide +kernel
theorem dX11_sight_50 : decode cX11_sight 50 = .ok (.iload_n 1, 1) := by decide +kernel
theorem dX11_sight_51 : decode cX11_sight 51 = .ok (.iload_n 2, 1) := by decide +kernel
theorem dX11_sight_52 : decode cX11_sight 52 = .ok (.iload_n 3, 1) := by decide +kernel
theorem dX11_sight_53 : decode cX11_sight 53 = .ok (.aload_n 0, 1) := by decide +kernel
theorem dX11_sight_54 : decode cX11_sight 54 = .ok (.getfield 86, 3) := by decide +kernel
theorem dX11_sight_57 : decode cX11_sight 57 = .ok (.invokevirtual 247, 3) := by decide +kernel
theorem dX11_sight_60 : decode cX11_sight 60 = .ok (.ireturn, 1) := by decide +kernel
theorem dX11_untell_0 : decode cX11_untell 0 = .ok (.aload_n 0, 1) := by decide +kernel
theorem dX11_untell_1 : decode cX11_untell 1 = .ok (.getfield 67, 3) := by decide +kernel
theorem dX11_untell_4 : decode cX11_untell 4 = .ok (.iload_n 1, 1) := by decide +kernel
theorem dX11_untell_5 : decode cX11_untell 5 = .ok (.aload_n 0, 1) := by decide +kernel
theorem dX11_untell_6 : decode cX11_untell 6 = .ok (.getfield 86, 3) := by decide +kernel
theorem dX11_untell_9 : decode cX11_untell 9 = .ok (.invokevirtual 251, 3) := by decide +kernel
theorem dX11_untell_12 : decode cX11_untell 12 = .ok (.ireturn, 1) := by decide +kernel
theorem dX11_later_0 : decode cX11_later 0 = .ok (.iload_n 1, 1) := by decide +kernel
theorem dX11_later_1 : decode cX11_later 1 = .ok (.ifCond .lt 21, 3) := by decide +kernel
theorem dX11_later_4 : decode cX11_later 4 = .ok (.iload_n 1, 1) := by decide +kernel
theorem dX11_later_5 : decode cX11_later 5 = .ok (.sipush 1000, 3) := by decide +kernel
theorem dX11_later_8 : decode cX11_later 8 = .ok (.if_icmp .gt 14, 3) := by decide +kernel
theorem dX11_later_11 : decode cX11_later 11 = .ok (.aload_n 0, 1) := by decide +kernel
theorem dX11_later_12 : decode cX11_later 12 = .ok (.getfield 86, 3) := by decide +kernel
theorem dX11_later_15 : decode cX11_later 15 = .ok (.iload_n 1, 1) := by decide +kernel
theorem dX11_later_16 : decode cX11_later 16 = .ok (.iadd, 1) := by decide +kernel
theorem dX11_later_17 : decode cX11_later 17 = .ok (.ldc 253, 2) := by decide +kernel
theorem dX11_later_19 : decode cX11_later 19 = .ok (.if_icmp .le 5, 3) := by decide +kernel
theorem dX11_later_22 : decode cX11_later 22 = .ok (.iconst (-1), 1) := by decide +kernel
theorem dX11_later_23 : decode cX11_later 23 = .ok (.ireturn, 1) := by decide +kernel
theorem dX11_later_24 : decode cX11_later 24 = .ok (.aload_n 0, 1) := by decide +kernel
theorem dX11_later_25 : decode cX11_later 25 = .ok (.dup, 1) := by decide +kernel
theorem dX11_later_26 : decode cX11_later 26 = .ok (.getfield 86, 3) := by decide +kernel
theorem dX11_later_29 : decode cX11_later 29 = .ok (.iload_n 1, 1) := by decide +kernel
theorem dX11_later_30 : decode cX11_later 30 = .ok (.iadd, 1) := by decide +kernel
theorem dX11_later_31 : decode cX11_later 31 = .ok (.putfield 86, 3) := by decide +kernel
theorem dX11_later_34 : decode cX11_later 34 = .ok (.aload_n 0, 1) := by decide +kernel
theorem dX11_later_35 : decode cX11_later 35 = .ok (.getfield 86, 3) := by decide +kernel
theorem dX11_later_38 : decode cX11_later 38 = .ok (.ireturn, 1) := by decide +kernel
theorem dX11_fits_0 : decode cX11_fits 0 = .ok (.aload_n 0, 1) := by decide +kernel
theorem dX11_fits_1 : decode cX11_fits 1 = .ok (.iload_n 1, 1) := by decide +kernel
theorem dX11_fits_2 : decode cX11_fits 2 = .ok (.iload_n 2, 1) := by decide +kernel
theorem dX11_fits_3 : decode cX11_fits 3 = .ok (.invokevirtual 128, 3) := by decide +kernel
theorem dX11_fits_6 : decode cX11_fits 6 = .ok (.ifCond .ne 7, 3) := by decide +kernel
theorem dX11_fits_9 : decode cX11_fits 9 = .ok (.ldc2_w 254, 3) := by decide +kernel
theorem dX11_fits_12 : decode cX11_fits 12 = .ok (.lreturn, 1) := by decide +kernel
theorem dX11_fits_13 : decode cX11_fits 13 = .ok (.aload_n 0, 1) := by decide +kernel
theorem dX11_fits_14 : decode cX11_fits 14 = .ok (.getfield 67, 3) := by decide +kernel
theorem dX11_fits_17 : decode cX11_fits 17 = .ok (.iload_n 3, 1) := by decide +kernel
theorem dX11_fits_18 : decode cX11_fits 18 = .ok (.invokevirtual 256, 3) := by decide +kernel
theorem dX11_fits_21 : decode cX11_fits 21 = .ok (.istore 4, 2) := by decide +kernel
theorem dX11_fits_23 : decode cX11_fits 23 = .ok (.iload_n 1, 1) := by decide +kernel
theorem dX11_fits_24 : decode cX11_fits 24 = .ok (.iload_n 2, 1) := by decide +kernel
theorem dX11_fits_25 : decode cX11_fits 25 = .ok (.invokestatic 135, 3) := by decide +kernel
theorem dX11_fits_28 : decode cX11_fits 28 = .ok (.istore 5, 2) := by decide +kernel
theorem dX11_fits_30 : decode cX11_fits 30 = .ok (.aload_n 0, 1) := by decide +kernel
theorem dX11_fits_31 : decode cX11_fits 31 = .ok (.getfield 67, 3) := by decide +kernel
theorem dX11_fits_34 : decode cX11_fits 34 = .ok (.getfield 259, 3) := by decide +kernel
theorem dX11_fits_37 : decode cX11_fits 37 = .ok (.iload 5, 2) := by decide +kernel
theorem dX11_fits_39 : decode cX11_fits 39 = .ok (.iaload, 1) := by decide +kernel
theorem dX11_fits_40 : decode cX11_fits 40 = .ok (.iload 4, 2) := by decide +kernel
theorem dX11_fits_42 : decode cX11_fits 42 = .ok (.if_icmp .eq 83, 3) := by decide +kernel
theorem dX11_fits_45 : decode cX11_fits 45 = .ok (.aload_n 0, 1) := by decide +kernel
theorem dX11_fits_46 : decode cX11_fits 46 = .ok (.getfield 67, 3) := by decide +kernel
theorem dX11_fits_49 : decode cX11_fits 49 = .ok (.getfield 259, 3) := by decide +kernel
theorem dX11_fits_52 : decode cX11_fits 52 = .ok (.iload 5, 2) := by decide +kernel
theorem dX11_fits_54 : decode cX11_fits 54 = .ok (.iload 4, 2) := by decide +kernel
theorem dX11_fits_56 : decode cX11_fits 56 = .ok (.iastore, 1) := by decide +kernel
theorem dX11_fits_57 : decode cX11_fits 57 = .ok (.aload_n 0, 1) := by decide +kernel
theorem dX11_fits_58 : decode cX11_fits 58 = .ok (.getfield 67, 3) := by decide +kernel
theorem dX11_fits_61 : decode cX11_fits 61 = .ok (.getfield 262, 3) := by decide +kernel
theorem dX11_fits_64 : decode cX11_fits 64 = .ok (.iload 5, 2) := by decide +kernel
theorem dX11_fits_66 : decode cX11_fits 66 = .ok (.lconst 0, 1) := by decide +kernel
theorem dX11_fits_67 : decode cX11_fits 67 = .ok (.lastore, 1) := by decide +kernel
theorem dX11_fits_68 : decode cX11_fits 68 = .ok (.iconst 0, 1) := by decide +kernel
theorem dX11_fits_69 : decode cX11_fits 69 = .ok (.istore 6, 2) := by decide +kernel
theorem dX11_fits_71 : decode cX11_fits 71 = .ok (.iload 6, 2) := by decide +kernel
theorem dX11_fits_73 : decode cX11_fits 73 = .ok (.bipush 40, 2) := by decide +kernel
theorem dX11_fits_75 : decode cX11_fits 75 = .ok (.if_icmp .gt 50, 3) := by decide +kernel
theorem dX11_fits_78 : decode cX11_fits 78 = .ok (.aload_n 0, 1) := by decide +kernel
theorem dX11_fits_79 : decode cX11_fits 79 = .ok (.iload 5, 2) := by decide +kernel
theorem dX11_fits_81 : decode cX11_fits 81 = .ok (.iload 6, 2) := by decide +kernel
theorem dX11_fits_83 : decode cX11_fits 83 = .ok (.invokevirtual 266, 3) := by decide +kernel
theorem dX11_fits_86 : decode cX11_fits 86 = .ok (.aload_n 0, 1) := by decide +kernel
theorem dX11_fits_87 : decode cX11_fits 87 = .ok (.getfield 67, 3) := by decide +kernel
theorem dX11_fits_90 : decode cX11_fits 90 = .ok (.iload 4, 2) := by decide +kernel
theorem dX11_fits_92 : decode cX11_fits 92 = .ok (.aload_n 0, 1) := by decide +kernel
theorem dX11_fits_93 : decode cX11_fits 93 = .ok (.getfield 46, 3) := by decide +kernel
theorem dX11_fits_96 : decode cX11_fits 96 = .ok (.invokevirtual 270, 3) := by decide +kernel
theorem dX11_fits_99 : decode cX11_fits 99 = .ok (.ifCond .eq 20, 3) := by decide +kernel
theorem dX11_fits_102 : decode cX11_fits 102 = .ok (.aload_n 0, 1) := by decide +kernel
theorem dX11_fits_103 : decode cX11_fits 103 = .ok (.getfield 67, 3) := by decide +kernel
theorem dX11_fits_106 : decode cX11_fits 106 = .ok (.getfield 262, 3) := by decide +kernel
theorem dX11_fits_109 : decode cX11_fits 109 = .ok (.iload 5, 2) := by decide +kernel
theorem dX11_fits_111 : decode cX11_fits 111 = .ok (.dup2, 1) := by decide +kernel
theorem dX11_fits_112 : decode cX11_fits 112 = .ok (.laload, 1) := by decide +kernel
theorem dX11_fits_113 : decode cX11_fits 113 = .ok (.lconst 1, 1) := by decide +kernel
theorem dX11_fits_114 : decode cX11_fits 114 = .ok (.iload 6, 2) := by decide +kernel
theorem dX11_fits_116 : decode cX11_fits 116 = .ok (.lshl, 1) := by decide +kernel
theorem dX11_fits_117 : decode cX11_fits 117 = .ok (.lor, 1) := by decide +kernel
theorem dX11_fits_118 : decode cX11_fits 118 = .ok (.lastore, 1) := by decide +kernel
theorem dX11_fits_119 : decode cX11_fits 119 = .ok (.iinc 6 1, 3) := by decide +kernel
theorem dX11_fits_122 : decode cX11_fits 122 = .ok (.goto (-51), 3) := by decide +kernel
theorem dX11_fits_125 : decode cX11_fits 125 = .ok (.aload_n 0, 1) := by decide +kernel
theorem dX11_fits_126 : decode cX11_fits 126 = .ok (.getfield 67, 3) := by decide +kernel
theorem dX11_fits_129 : decode cX11_fits 129 = .ok (.getfield 262, 3) := by decide +kernel
theorem dX11_fits_132 : decode cX11_fits 132 = .ok (.iload 5, 2) := by decide +kernel
theorem dX11_fits_134 : decode cX11_fits 134 = .ok (.laload, 1) := by decide +kernel
theorem dX11_fits_135 : decode cX11_fits 135 = .ok (.lreturn, 1) := by decide +kernel
theorem dX11_image_0 : decode cX11_image 0 = .ok (.iload_n 1, 1) := by decide +kernel
theorem dX11_image_1 : decode cX11_image 1 = .ok (.ifCond .lt 8, 3) := by decide +kernel
theorem dX11_image_4 : decode cX11_image 4 = .ok (.iload_n 1, 1) := by decide +kernel
theorem dX11_image_5 : decode cX11_image 5 = .ok (.iconst 3, 1) := by decide +kernel
theorem dX11_image_6 : decode cX11_image 6 = .ok (.if_icmp .lt 5, 3) := by decide +kernel
theorem dX11_image_9 : decode cX11_image 9 = .ok (.iconst (-1), 1) := by decide +kernel
theorem dX11_image_10 : decode cX11_image 10 = .ok (.ireturn, 1) := by decide +kernel
theorem dX11_image_11 : decode cX11_image 11 = .ok (.aload_n 0, 1) := by decide +kernel
theorem dX11_image_12 : decode cX11_image 12 = .ok (.getfield 39, 3) := by decide +kernel
theorem dX11_image_15 : decode cX11_image 15 = .ok (.iload_n 1, 1) := by decide +kernel
theorem dX11_image_16 : decode cX11_image 16 = .ok (.aload_n 0, 1) := by decide +kernel
theorem dX11_image_17 : decode cX11_image 17 = .ok (.getfield 23, 3) := by decide +kernel
theorem dX11_image_20 : decode cX11_image 20 = .ok (.invokevirtual 274, 3) := by decide +kernel
theorem dX11_image_23 : decode cX11_image 23 = .ok (.aload_n 0, 1) := by decide +kernel
theorem dX11_image_24 : decode cX11_image 24 = .ok (.getfield 23, 3) := by decide +kernel
theorem dX11_image_27 : decode cX11_image 27 = .ok (.getfield 172, 3) := by decide +kernel
theorem dX11_image_30 : decode cX11_image 30 = .ok (.ireturn, 1) := by decide +kernel
theorem dX11_back_0 : decode cX11_back 0 = .ok (.aload_n 0, 1) := by decide +kernel
theorem dX11_back_1 : decode cX11_back 1 = .ok (.getfield 39, 3) := by decide +kernel
theorem dX11_back_4 : decode cX11_back 4 = .ok (.iload_n 1, 1) := by decide +kernel
theorem dX11_back_5 : decode cX11_back 5 = .ok (.aload_n 0, 1) := by decide +kernel
theorem dX11_back_6 : decode cX11_back 6 = .ok (.getfield 23, 3) := by decide +kernel
theorem dX11_back_9 : decode cX11_back 9 = .ok (.invokevirtual 277, 3) := by decide +kernel
theorem dX11_back_12 : decode cX11_back 12 = .ok (.ifCond .ne 5, 3) := by decide +kernel
theorem dX11_back_15 : decode cX11_back 15 = .ok (.iconst (-1), 1) := by decide +kernel
theorem dX11_back_16 : decode cX11_back 16 = .ok (.ireturn, 1) := by decide +kernel
theorem dX11_back_17 : decode cX11_back 17 = .ok (.aload_n 0, 1) := by decide +kernel
theorem dX11_back_18 : decode cX11_back 18 = .ok (.getfield 30, 3) := by decide +kernel
theorem dX11_back_21 : decode cX11_back 21 = .ok (.aload_n 0, 1) := by decide +kernel
theorem dX11_back_22 : decode cX11_back 22 = .ok (.getfield 23, 3) := by decide +kernel
theorem dX11_back_25 : decode cX11_back 25 = .ok (.invokevirtual 89, 3) := by decide +kernel
theorem dX11_back_28 : decode cX11_back 28 = .ok (.aload_n 0, 1) := by decide +kernel
theorem dX11_back_29 : decode cX11_back 29 = .ok (.invokevirtual 119, 3) := by decide +kernel
theorem dX11_back_32 : decode cX11_back 32 = .ok (.aload_n 0, 1) := by decide +kernel
theorem dX11_back_33 : decode cX11_back 33 = .ok (.getfield 23, 3) := by decide +kernel
theorem dX11_back_36 : decode cX11_back 36 = .ok (.getfield 172, 3) := by decide +kernel
theorem dX11_back_39 : decode cX11_back 39 = .ok (.ireturn, 1) := by decide +kernel
theorem dX11_about_0 : decode cX11_about 0 = .ok (.iload_n 1, 1) := by decide +kernel
theorem dX11_about_1 : decode cX11_about 1 = .ok (.tableswitch 141 0 10 #[59, 67, 75, 83, 91, 99, 107, 115, 123, 128, 133], 59) := by decide +kernel
theorem dX11_about_60 : decode cX11_about 60 = .ok (.aload_n 0, 1) := by decide +kernel
theorem dX11_about_61 : decode cX11_about 61 = .ok (.getfield 78, 3) := by decide +kernel
theorem dX11_about_64 : decode cX11_about 64 = .ok (.getfield 122, 3) := by decide +kernel
theorem dX11_about_67 : decode cX11_about 67 = .ok (.ireturn, 1) := by decide +kernel
theorem dX11_about_68 : decode cX11_about 68 = .ok (.aload_n 0, 1) := by decide +kernel
theorem dX11_about_69 : decode cX11_about 69 = .ok (.getfield 78, 3) := by decide +kernel
theorem dX11_about_72 : decode cX11_about 72 = .ok (.getfield 157, 3) := by decide +kernel
theorem dX11_about_75 : decode cX11_about 75 = .ok (.ireturn, 1) := by decide +kernel
theorem dX11_about_76 : decode cX11_about 76 = .ok (.aload_n 0, 1) := by decide +kernel
theorem dX11_about_77 : decode cX11_about 77 = .ok (.getfield 23, 3) := by decide +kernel
theorem dX11_about_80 : decode cX11_about 80 = .ok (.getfield 172, 3) := by decide +kernel
theorem dX11_about_83 : decode cX11_about 83 = .ok (.ireturn, 1) := by decide +kernel
theorem dX11_about_84 : decode cX11_about 84 = .ok (.aload_n 0, 1) := by decide +kernel
theorem dX11_about_85 : decode cX11_about 85 = .ok (.getfield 23, 3) := by decide +kernel
theorem dX11_about_88 : decode cX11_about 88 = .ok (.invokevirtual 281, 3) := by decide +kernel
theorem dX11_about_91 : decode cX11_about 91 = .ok (.ireturn, 1) := by decide +kernel
theorem dX11_about_92 : decode cX11_about 92 = .ok (.aload_n 0, 1) := by decide +kernel
theorem dX11_about_93 : decode cX11_about 93 = .ok (.getfield 30, 3) := by decide +kernel
theorem dX11_about_96 : decode cX11_about 96 = .ok (.getfield 284, 3) := by decide +kernel
theorem dX11_about_99 : decode cX11_about 99 = .ok (.ireturn, 1) := by decide +kernel
theorem dX11_about_100 : decode cX11_about 100 = .ok (.aload_n 0, 1) := by decide +kernel
theorem dX11_about_101 : decode cX11_about 101 = .ok (.getfield 30, 3) := by decide +kernel
theorem dX11_about_104 : decode cX11_about 104 = .ok (.getfield 287, 3) := by decide +kernel
theorem dX11_about_107 : decode cX11_about 107 = .ok (.ireturn, 1) := by decide +kernel
theorem dX11_about_108 : decode cX11_about 108 = .ok (.aload_n 0, 1) := by decide +kernel
theorem dX11_about_109 : decode cX11_about 109 = .ok (.getfield 60, 3) := by decide +kernel
theorem dX11_about_112 : decode cX11_about 112 = .ok (.getfield 114, 3) := by decide +kernel
theorem dX11_about_115 : decode cX11_about 115 = .ok (.ireturn, 1) := by decide +kernel
theorem dX11_about_116 : decode cX11_about 116 = .ok (.aload_n 0, 1) := by decide +kernel
theorem dX11_about_117 : decode cX11_about 117 = .ok (.getfield 67, 3) := by decide +kernel
theorem dX11_about_120 : decode cX11_about 120 = .ok (.getfield 290, 3) := by decide +kernel
theorem dX11_about_123 : decode cX11_about 123 = .ok (.ireturn, 1) := by decide +kernel
theorem dX11_about_124 : decode cX11_about 124 = .ok (.aload_n 0, 1) := by decide +kernel
theorem dX11_about_125 : decode cX11_about 125 = .ok (.getfield 86, 3) := by decide +kernel
theorem dX11_about_128 : decode cX11_about 128 = .ok (.ireturn, 1) := by decide +kernel
theorem dX11_about_129 : decode cX11_about 129 = .ok (.aload_n 0, 1) := by decide +kernel
theorem dX11_about_130 : decode cX11_about 130 = .ok (.getfield 82, 3) := by decide +kernel
theorem dX11_about_133 : decode cX11_about 133 = .ok (.ireturn, 1) := by decide +kernel
theorem dX11_about_134 : decode cX11_about 134 = .ok (.aload_n 0, 1) := by decide +kernel
theorem dX11_about_135 : decode cX11_about 135 = .ok (.getfield 78, 3) := by decide +kernel
theorem dX11_about_138 : decode cX11_about 138 = .ok (.getfield 291, 3) := by decide +kernel
theorem dX11_about_141 : decode cX11_about 141 = .ok (.ireturn, 1) := by decide +kernel
theorem dX11_about_142 : decode cX11_about 142 = .ok (.iconst (-1), 1) := by decide +kernel
theorem dX11_about_143 : decode cX11_about 143 = .ok (.ireturn, 1) := by decide +kernel
theorem dX11_putFour_0 : decode cX11_putFour 0 = .ok (.bipush 24, 2) := by decide +kernel
theorem dX11_putFour_2 : decode cX11_putFour 2 = .ok (.istore_n 2, 1) := by decide +kernel
theorem dX11_putFour_3 : decode cX11_putFour 3 = .ok (.iload_n 2, 1) := by decide +kernel
theorem dX11_putFour_4 : decode cX11_putFour 4 = .ok (.ifCond .lt 44, 3) := by decide +kernel
theorem dX11_putFour_7 : decode cX11_putFour 7 = .ok (.aload_n 0, 1) := by decide +kernel
theorem dX11_putFour_8 : decode cX11_putFour 8 = .ok (.getfield 82, 3) := by decide +kernel
theorem dX11_putFour_11 : decode cX11_putFour 11 = .ok (.aload_n 0, 1) := by decide +kernel
theorem dX11_putFour_12 : decode cX11_putFour 12 = .ok (.getfield 9, 3) := by decide +kernel
theorem dX11_putFour_15 : decode cX11_putFour 15 = .ok (.arraylength, 1) := by decide +kernel
theorem dX11_putFour_16 : decode cX11_putFour 16 = .ok (.if_icmp .ge 32, 3) := by decide +kernel
theorem dX11_putFour_19 : decode cX11_putFour 19 = .ok (.aload_n 0, 1) := by decide +kernel
theorem dX11_putFour_20 : decode cX11_putFour 20 = .ok (.getfield 9, 3) := by decide +kernel
theorem dX11_putFour_23 : decode cX11_putFour 23 = .ok (.aload_n 0, 1) := by decide +kernel
theorem dX11_putFour_24 : decode cX11_putFour 24 = .ok (.getfield 82, 3) := by decide +kernel
theorem dX11_putFour_27 : decode cX11_putFour 27 = .ok (.iload_n 1, 1) := by decide +kernel
theorem dX11_putFour_28 : decode cX11_putFour 28 = .ok (.iload_n 2, 1) := by decide +kernel
theorem dX11_putFour_29 : decode cX11_putFour 29 = .ok (.ishr, 1) := by decide +kernel
theorem dX11_putFour_30 : decode cX11_putFour 30 = .ok (.i2b, 1) := by decide +kernel
theorem dX11_putFour_31 : decode cX11_putFour 31 = .ok (.bastore, 1) := by decide +kernel
theorem dX11_putFour_32 : decode cX11_putFour 32 = .ok (.aload_n 0, 1) := by decide +kernel
theorem dX11_putFour_33 : decode cX11_putFour 33 = .ok (.dup, 1) := by decide +kernel
theorem dX11_putFour_34 : decode cX11_putFour 34 = .ok (.getfield 82, 3) := by decide +kernel
theorem dX11_putFour_37 : decode cX11_putFour 37 = .ok (.iconst 1, 1) := by decide +kernel
theorem dX11_putFour_38 : decode cX11_putFour 38 = .ok (.iadd, 1) := by decide +kernel
theorem dX11_putFour_39 : decode cX11_putFour 39 = .ok (.putfield 82, 3) := by decide +kernel
theorem dX11_putFour_42 : decode cX11_putFour 42 = .ok (.iinc 2 (-8), 3) := by decide +kernel
theorem dX11_putFour_45 : decode cX11_putFour 45 = .ok (.goto (-42), 3) := by decide +kernel
theorem dX11_putFour_48 : decode cX11_putFour 48 = .ok (.return_, 1) := by decide +kernel
theorem dX11_isSmith_0 : decode cX11_isSmith 0 = .ok (.iload_n 1, 1) := by decide +kernel
theorem dX11_isSmith_1 : decode cX11_isSmith 1 = .ok (.ifCond .lt 18, 3) := by decide +kernel
theorem dX11_isSmith_4 : decode cX11_isSmith 4 = .ok (.iload_n 1, 1) := by decide +kernel
theorem dX11_isSmith_5 : decode cX11_isSmith 5 = .ok (.aload_n 0, 1) := by decide +kernel
theorem dX11_isSmith_6 : decode cX11_isSmith 6 = .ok (.getfield 78, 3) := by decide +kernel
theorem dX11_isSmith_9 : decode cX11_isSmith 9 = .ok (.getfield 122, 3) := by decide +kernel
theorem dX11_isSmith_12 : decode cX11_isSmith 12 = .ok (.if_icmp .ge 7, 3) := by decide +kernel
theorem dX11_isSmith_15 : decode cX11_isSmith 15 = .ok (.iconst 1, 1) := by decide +kernel
theorem dX11_isSmith_16 : decode cX11_isSmith 16 = .ok (.goto 4, 3) := by decide +kernel
theorem dX11_isSmith_19 : decode cX11_isSmith 19 = .ok (.iconst 0, 1) := by decide +kernel
theorem dX11_isSmith_20 : decode cX11_isSmith 20 = .ok (.ireturn, 1) := by decide +kernel
theorem dX11_isHorse_0 : decode cX11_isHorse 0 = .ok (.iload_n 1, 1) := by decide +kernel
theorem dX11_isHorse_1 : decode cX11_isHorse 1 = .ok (.ifCond .lt 18, 3) := by decide +kernel
theorem dX11_isHorse_4 : decode cX11_isHorse 4 = .ok (.iload_n 1, 1) := by decide +kernel
theorem dX11_isHorse_5 : decode cX11_isHorse 5 = .ok (.aload_n 0, 1) := by decide +kernel
theorem dX11_isHorse_6 : decode cX11_isHorse 6 = .ok (.getfield 78, 3) := by decide +kernel
theorem dX11_isHorse_9 : decode cX11_isHorse 9 = .ok (.getfield 157, 3) := by decide +kernel
theorem dX11_isHorse_12 : decode cX11_isHorse 12 = .ok (.if_icmp .ge 7, 3) := by decide +kernel
theorem dX11_isHorse_15 : decode cX11_isHorse 15 = .ok (.iconst 1, 1) := by decide +kernel
theorem dX11_isHorse_16 : decode cX11_isHorse 16 = .ok (.goto 4, 3) := by decide +kernel
theorem dX11_isHorse_19 : decode cX11_isHorse 19 = .ok (.iconst 0, 1) := by decide +kernel
theorem dX11_isHorse_20 : decode cX11_isHorse 20 = .ok (.ireturn, 1) := by decide +kernel
theorem dX11_isPair_0 : decode cX11_isPair 0 = .ok (.aload_n 0, 1) := by decide +kernel
theorem dX11_isPair_1 : decode cX11_isPair 1 = .ok (.iload_n 1, 1) := by decide +kernel
theorem dX11_isPair_2 : decode cX11_isPair 2 = .ok (.invokevirtual 147, 3) := by decide +kernel
theorem dX11_isPair_5 : decode cX11_isPair 5 = .ok (.ifCond .eq 15, 3) := by decide +kernel
theorem dX11_isPair_8 : decode cX11_isPair 8 = .ok (.aload_n 0, 1) := by decide +kernel
theorem dX11_isPair_9 : decode cX11_isPair 9 = .ok (.iload_n 2, 1) := by decide +kernel
theorem dX11_isPair_10 : decode cX11_isPair 10 = .ok (.invokevirtual 139, 3) := by decide +kernel
theorem dX11_isPair_13 : decode cX11_isPair 13 = .ok (.ifCond .eq 7, 3) := by decide +kernel
theorem dX11_isPair_16 : decode cX11_isPair 16 = .ok (.iconst 1, 1) := by decide +kernel
theorem dX11_isPair_17 : decode cX11_isPair 17 = .ok (.goto 4, 3) := by decide +kernel
theorem dX11_isPair_20 : decode cX11_isPair 20 = .ok (.iconst 0, 1) := by decide +kernel
theorem dX11_isPair_21 : decode cX11_isPair 21 = .ok (.ireturn, 1) := by decide +kernel
theorem dX11_lackIsNew_0 : decode cX11_lackIsNew 0 = .ok (.aload_n 0, 1) := by decide +kernel
theorem dX11_lackIsNew_1 : decode cX11_lackIsNew 1 = .ok (.getfield 46, 3) := by decide +kernel
theorem dX11_lackIsNew_4 : decode cX11_lackIsNew 4 = .ok (.iconst 0, 1) := by decide +kernel
theorem dX11_lackIsNew_5 : decode cX11_lackIsNew 5 = .ok (.putfield 294, 3) := by decide +kernel
theorem dX11_lackIsNew_8 : decode cX11_lackIsNew 8 = .ok (.aload_n 0, 1) := by decide +kernel
theorem dX11_lackIsNew_9 : decode cX11_lackIsNew 9 = .ok (.getfield 53, 3) := by decide +kernel
theorem dX11_lackIsNew_12 : decode cX11_lackIsNew 12 = .ok (.iconst 0, 1) := by decide +kernel
theorem dX11_lackIsNew_13 : decode cX11_lackIsNew 13 = .ok (.putfield 298, 3) := by decide +kernel
theorem dX11_lackIsNew_16 : decode cX11_lackIsNew 16 = .ok (.return_, 1) := by decide +kernel
theorem dX11_actIsDone_0 : decode cX11_actIsDone 0 = .ok (.aload_n 0, 1) := by decide +kernel
theorem dX11_actIsDone_1 : decode cX11_actIsDone 1 = .ok (.getfield 30, 3) := by decide +kernel
theorem dX11_actIsDone_4 : decode cX11_actIsDone 4 = .ok (.aload_n 0, 1) := by decide +kernel
theorem dX11_actIsDone_5 : decode cX11_actIsDone 5 = .ok (.getfield 23, 3) := by decide +kernel
theorem dX11_actIsDone_8 : decode cX11_actIsDone 8 = .ok (.invokevirtual 301, 3) := by decide +kernel
theorem dX11_actIsDone_11 : decode cX11_actIsDone 11 = .ok (.aload_n 0, 1) := by decide +kernel
theorem dX11_actIsDone_12 : decode cX11_actIsDone 12 = .ok (.invokevirtual 119, 3) := by decide +kernel
theorem dX11_actIsDone_15 : decode cX11_actIsDone 15 = .ok (.return_, 1) := by decide +kernel
theorem dX11_sumSmiths_0 : decode cX11_sumSmiths 0 = .ok (.iconst 0, 1) := by decide +kernel
theorem dX11_sumSmiths_1 : decode cX11_sumSmiths 1 = .ok (.istore_n 1, 1) := by decide +kernel
theorem dX11_sumSmiths_2 : decode cX11_sumSmiths 2 = .ok (.iload_n 1, 1) := by decide +kernel
theorem dX11_sumSmiths_3 : decode cX11_sumSmiths 3 = .ok (.aload_n 0, 1) := by decide +kernel
theorem dX11_sumSmiths_4 : decode cX11_sumSmiths 4 = .ok (.getfield 78, 3) := by decide +kernel
theorem dX11_sumSmiths_7 : decode cX11_sumSmiths 7 = .ok (.getfield 122, 3) := by decide +kernel
theorem dX11_sumSmiths_10 : decode cX11_sumSmiths 10 = .ok (.if_icmp .ge 23, 3) := by decide +kernel
theorem dX11_sumSmiths_13 : decode cX11_sumSmiths 13 = .ok (.aload_n 0, 1) := by decide +kernel
theorem dX11_sumSmiths_14 : decode cX11_sumSmiths 14 = .ok (.getfield 71, 3) := by decide +kernel
theorem dX11_sumSmiths_17 : decode cX11_sumSmiths 17 = .ok (.iload_n 1, 1) := by decide +kernel
theorem dX11_sumSmiths_18 : decode cX11_sumSmiths 18 = .ok (.aload_n 0, 1) := by decide +kernel
theorem dX11_sumSmiths_19 : decode cX11_sumSmiths 19 = .ok (.getfield 23, 3) := by decide +kernel
theorem dX11_sumSmiths_22 : decode cX11_sumSmiths 22 = .ok (.iload_n 1, 1) := by decide +kernel
theorem dX11_sumSmiths_23 : decode cX11_sumSmiths 23 = .ok (.invokevirtual 150, 3) := by decide +kernel
theorem dX11_sumSmiths_26 : decode cX11_sumSmiths 26 = .ok (.iastore, 1) := by decide +kernel
theorem dX11_sumSmiths_27 : decode cX11_sumSmiths 27 = .ok (.iinc 1 1, 3) := by decide +kernel
theorem dX11_sumSmiths_30 : decode cX11_sumSmiths 30 = .ok (.goto (-28), 3) := by decide +kernel
theorem dX11_sumSmiths_33 : decode cX11_sumSmiths 33 = .ok (.return_, 1) := by decide +kernel
theorem dX11_busiestSet_0 : decode cX11_busiestSet 0 = .ok (.iconst 0, 1) := by decide +kernel
theorem dX11_busiestSet_1 : decode cX11_busiestSet 1 = .ok (.istore_n 1, 1) := by decide +kernel
theorem dX11_busiestSet_2 : decode cX11_busiestSet 2 = .ok (.iconst 0, 1) := by decide +kernel
theorem dX11_busiestSet_3 : decode cX11_busiestSet 3 = .ok (.istore_n 2, 1) := by decide +kernel
theorem dX11_busiestSet_4 : decode cX11_busiestSet 4 = .ok (.iconst 1, 1) := by decide +kernel
theorem dX11_busiestSet_5 : decode cX11_busiestSet 5 = .ok (.istore_n 3, 1) := by decide +kernel
theorem dX11_busiestSet_6 : decode cX11_busiestSet 6 = .ok (.iload_n 3, 1) := by decide +kernel
theorem dX11_busiestSet_7 : decode cX11_busiestSet 7 = .ok (.iconst 1, 1) := by decide +kernel
theorem dX11_busiestSet_8 : decode cX11_busiestSet 8 = .ok (.aload_n 0, 1) := by decide +kernel
theorem dX11_busiestSet_9 : decode cX11_busiestSet 9 = .ok (.getfield 78, 3) := by decide +kernel
theorem dX11_busiestSet_12 : decode cX11_busiestSet 12 = .ok (.getfield 122, 3) := by decide +kernel
theorem dX11_busiestSet_15 : decode cX11_busiestSet 15 = .ok (.ishl, 1) := by decide +kernel
theorem dX11_busiestSet_16 : decode cX11_busiestSet 16 = .ok (.if_icmp .ge 27, 3) := by decide +kernel
theorem dX11_busiestSet_19 : decode cX11_busiestSet 19 = .ok (.aload_n 0, 1) := by decide +kernel
theorem dX11_busiestSet_20 : decode cX11_busiestSet 20 = .ok (.iload_n 3, 1) := by decide +kernel
theorem dX11_busiestSet_21 : decode cX11_busiestSet 21 = .ok (.invokevirtual 192, 3) := by decide +kernel
theorem dX11_busiestSet_24 : decode cX11_busiestSet 24 = .ok (.istore 4, 2) := by decide +kernel
theorem dX11_busiestSet_26 : decode cX11_busiestSet 26 = .ok (.iload 4, 2) := by decide +kernel
theorem dX11_busiestSet_28 : decode cX11_busiestSet 28 = .ok (.iload_n 1, 1) := by decide +kernel
theorem dX11_busiestSet_29 : decode cX11_busiestSet 29 = .ok (.if_icmp .le 8, 3) := by decide +kernel
theorem dX11_busiestSet_32 : decode cX11_busiestSet 32 = .ok (.iload 4, 2) := by decide +kernel
theorem dX11_busiestSet_34 : decode cX11_busiestSet 34 = .ok (.istore_n 1, 1) := by decide +kernel
theorem dX11_busiestSet_35 : decode cX11_busiestSet 35 = .ok (.iload_n 3, 1) := by decide +kernel
theorem dX11_busiestSet_36 : decode cX11_busiestSet 36 = .ok (.istore_n 2, 1) := by decide +kernel
theorem dX11_busiestSet_37 : decode cX11_busiestSet 37 = .ok (.iinc 3 1, 3) := by decide +kernel
theorem dX11_busiestSet_40 : decode cX11_busiestSet 40 = .ok (.goto (-34), 3) := by decide +kernel
theorem dX11_busiestSet_43 : decode cX11_busiestSet 43 = .ok (.iload_n 2, 1) := by decide +kernel
theorem dX11_busiestSet_44 : decode cX11_busiestSet 44 = .ok (.ireturn, 1) := by decide +kernel
theorem dX11_mustDo_0 : decode cX11_mustDo 0 = .ok (.iconst 0, 1) := by decide +kernel
theorem dX11_mustDo_1 : decode cX11_mustDo 1 = .ok (.istore_n 2, 1) := by decide +kernel
theorem dX11_mustDo_2 : decode cX11_mustDo 2 = .ok (.iconst 0, 1) := by decide +kernel
theorem dX11_mustDo_3 : decode cX11_mustDo 3 = .ok (.istore_n 3, 1) := by decide +kernel
theorem dX11_mustDo_4 : decode cX11_mustDo 4 = .ok (.iload_n 3, 1) := by decide +kernel
theorem dX11_mustDo_5 : decode cX11_mustDo 5 = .ok (.aload_n 0, 1) := by decide +kernel
theorem dX11_mustDo_6 : decode cX11_mustDo 6 = .ok (.getfield 78, 3) := by decide +kernel
theorem dX11_mustDo_9 : decode cX11_mustDo 9 = .ok (.getfield 122, 3) := by decide +kernel
theorem dX11_mustDo_12 : decode cX11_mustDo 12 = .ok (.if_icmp .ge 42, 3) := by decide +kernel
theorem dX11_mustDo_15 : decode cX11_mustDo 15 = .ok (.aload_n 0, 1) := by decide +kernel
theorem dX11_mustDo_16 : decode cX11_mustDo 16 = .ok (.getfield 78, 3) := by decide +kernel
theorem dX11_mustDo_19 : decode cX11_mustDo 19 = .ok (.getfield 304, 3) := by decide +kernel
theorem dX11_mustDo_22 : decode cX11_mustDo 22 = .ok (.iload_n 3, 1) := by decide +kernel
theorem dX11_mustDo_23 : decode cX11_mustDo 23 = .ok (.iaload, 1) := by decide +kernel
theorem dX11_mustDo_24 : decode cX11_mustDo 24 = .ok (.iconst 1, 1) := by decide +kernel
theorem dX11_mustDo_25 : decode cX11_mustDo 25 = .ok (.iload_n 3, 1) := by decide +kernel
theorem dX11_mustDo_26 : decode cX11_mustDo 26 = .ok (.ishl, 1) := by decide +kernel
theorem dX11_mustDo_27 : decode cX11_mustDo 27 = .ok (.ior, 1) := by decide +kernel
theorem dX11_mustDo_28 : decode cX11_mustDo 28 = .ok (.istore 4, 2) := by decide +kernel
theorem dX11_mustDo_30 : decode cX11_mustDo 30 = .ok (.iload 4, 2) := by decide +kernel
theorem dX11_mustDo_32 : decode cX11_mustDo 32 = .ok (.iload_n 1, 1) := by decide +kernel
theorem dX11_mustDo_33 : decode cX11_mustDo 33 = .ok (.iconst (-1), 1) := by decide +kernel
theorem dX11_mustDo_34 : decode cX11_mustDo 34 = .ok (.ixor, 1) := by decide +kernel
theorem dX11_mustDo_35 : decode cX11_mustDo 35 = .ok (.iand, 1) := by decide +kernel
theorem dX11_mustDo_36 : decode cX11_mustDo 36 = .ok (.ifCond .ne 12, 3) := by decide +kernel
theorem dX11_mustDo_39 : decode cX11_mustDo 39 = .ok (.iload_n 2, 1) := by decide +kernel
theorem dX11_mustDo_40 : decode cX11_mustDo 40 = .ok (.aload_n 0, 1) := by decide +kernel
theorem dX11_mustDo_41 : decode cX11_mustDo 41 = .ok (.getfield 71, 3) := by decide +kernel
theorem dX11_mustDo_44 : decode cX11_mustDo 44 = .ok (.iload_n 3, 1) := by decide +kernel
theorem dX11_mustDo_45 : decode cX11_mustDo 45 = .ok (.iaload, 1) := by decide +kernel
theorem dX11_mustDo_46 : decode cX11_mustDo 46 = .ok (.iadd, 1) := by decide +kernel
theorem dX11_mustDo_47 : decode cX11_mustDo 47 = .ok (.istore_n 2, 1) := by decide +kernel
theorem dX11_mustDo_48 : decode cX11_mustDo 48 = .ok (.iinc 3 1, 3) := by decide +kernel
theorem dX11_mustDo_51 : decode cX11_mustDo 51 = .ok (.goto (-47), 3) := by decide +kernel
theorem dX11_mustDo_54 : decode cX11_mustDo 54 = .ok (.iload_n 1, 1) := by decide +kernel
theorem dX11_mustDo_55 : decode cX11_mustDo 55 = .ok (.invokestatic 307, 3) := by decide +kernel
theorem dX11_mustDo_58 : decode cX11_mustDo 58 = .ok (.istore_n 3, 1) := by decide +kernel
theorem dX11_mustDo_59 : decode cX11_mustDo 59 = .ok (.iload_n 3, 1) := by decide +kernel
theorem dX11_mustDo_60 : decode cX11_mustDo 60 = .ok (.ifCond .ne 7, 3) := by decide +kernel
theorem dX11_mustDo_63 : decode cX11_mustDo 63 = .ok (.iconst 0, 1) := by decide +kernel
theorem dX11_mustDo_64 : decode cX11_mustDo 64 = .ok (.goto 10, 3) := by decide +kernel
theorem dX11_mustDo_67 : decode cX11_mustDo 67 = .ok (.iload_n 2, 1) := by decide +kernel
theorem dX11_mustDo_68 : decode cX11_mustDo 68 = .ok (.iload_n 3, 1) := by decide +kernel
theorem dX11_mustDo_69 : decode cX11_mustDo 69 = .ok (.iadd, 1) := by decide +kernel
theorem dX11_mustDo_70 : decode cX11_mustDo 70 = .ok (.iconst 1, 1) := by decide +kernel
theorem dX11_mustDo_71 : decode cX11_mustDo 71 = .ok (.isub, 1) := by decide +kernel
theorem dX11_mustDo_72 : decode cX11_mustDo 72 = .ok (.iload_n 3, 1) := by decide +kernel
theorem dX11_mustDo_73 : decode cX11_mustDo 73 = .ok (.idiv, 1) := by decide +kernel
theorem dX11_mustDo_74 : decode cX11_mustDo 74 = .ok (.ireturn, 1) := by decide +kernel
theorem dX11_openLost_0 : decode cX11_openLost 0 = .ok (.aload_n 0, 1) := by decide +kernel
theorem dX11_openLost_1 : decode cX11_openLost 1 = .ok (.getfield 67, 3) := by decide +kernel
theorem dX11_openLost_4 : decode cX11_openLost 4 = .ok (.getfield 312, 3) := by decide +kernel
theorem dX11_openLost_7 : decode cX11_openLost 7 = .ok (.astore_n 3, 1) := by decide +kernel
theorem dX11_openLost_8 : decode cX11_openLost 8 = .ok (.aload_n 0, 1) := by decide +kernel
theorem dX11_openLost_9 : decode cX11_openLost 9 = .ok (.getfield 78, 3) := by decide +kernel
theorem dX11_openLost_12 : decode cX11_openLost 12 = .ok (.getfield 315, 3) := by decide +kernel
theorem dX11_openLost_15 : decode cX11_openLost 15 = .ok (.iconst 0, 1) := by decide +kernel
theorem dX11_openLost_16 : decode cX11_openLost 16 = .ok (.aload_n 3, 1) := by decide +kernel
theorem dX11_openLost_17 : decode cX11_openLost 17 = .ok (.iconst 0, 1) := by decide +kernel
theorem dX11_openLost_18 : decode cX11_openLost 18 = .ok (.bipush 80, 2) := by decide +kernel
theorem dX11_openLost_20 : decode cX11_openLost 20 = .ok (.invokestatic 207, 3) := by decide +kernel
theorem dX11_openLost_23 : decode cX11_openLost 23 = .ok (.aload_n 3, 1) := by decide +kernel
theorem dX11_openLost_24 : decode cX11_openLost 24 = .ok (.iload_n 1, 1) := by decide +kernel
theorem dX11_openLost_25 : decode cX11_openLost 25 = .ok (.iload_n 2, 1) := by decide +kernel
theorem dX11_openLost_26 : decode cX11_openLost 26 = .ok (.iastore, 1) := by decide +kernel
theorem dX11_openLost_27 : decode cX11_openLost 27 = .ok (.aload_n 0, 1) := by decide +kernel
theorem dX11_openLost_28 : decode cX11_openLost 28 = .ok (.getfield 46, 3) := by decide +kernel
theorem dX11_openLost_31 : decode cX11_openLost 31 = .ok (.aload_n 3, 1) := by decide +kernel
theorem dX11_openLost_32 : decode cX11_openLost 32 = .ok (.aload_n 0, 1) := by decide +kernel
theorem dX11_openLost_33 : decode cX11_openLost 33 = .ok (.getfield 78, 3) := by decide +kernel
theorem dX11_openLost_36 : decode cX11_openLost 36 = .ok (.getfield 122, 3) := by decide +kernel
theorem dX11_openLost_39 : decode cX11_openLost 39 = .ok (.aload_n 0, 1) := by decide +kernel
theorem dX11_openLost_40 : decode cX11_openLost 40 = .ok (.getfield 78, 3) := by decide +kernel
theorem dX11_openLost_43 : decode cX11_openLost 43 = .ok (.getfield 157, 3) := by decide +kernel
theorem dX11_openLost_46 : decode cX11_openLost 46 = .ok (.invokevirtual 197, 3) := by decide +kernel
theorem dX11_openLost_49 : decode cX11_openLost 49 = .ok (.return_, 1) := by decide +kernel
theorem dX11_cellOf_0 : decode cX11_cellOf 0 = .ok (.iload_n 0, 1) := by decide +kernel
theorem dX11_cellOf_1 : decode cX11_cellOf 1 = .ok (.bipush 10, 2) := by decide +kernel
theorem dX11_cellOf_3 : decode cX11_cellOf 3 = .ok (.imul, 1) := by decide +kernel
theorem dX11_cellOf_4 : decode cX11_cellOf 4 = .ok (.iload_n 1, 1) := by decide +kernel
theorem dX11_cellOf_5 : decode cX11_cellOf 5 = .ok (.iadd, 1) := by decide +kernel
theorem dX11_cellOf_6 : decode cX11_cellOf 6 = .ok (.ireturn, 1) := by decide +kernel
theorem dX11_lowest_0 : decode cX11_lowest 0 = .ok (.iload_n 0, 1) := by decide +kernel
theorem dX11_lowest_1 : decode cX11_lowest 1 = .ok (.iload_n 0, 1) := by decide +kernel
theorem dX11_lowest_2 : decode cX11_lowest 2 = .ok (.ineg, 1) := by decide +kernel
theorem dX11_lowest_3 : decode cX11_lowest 3 = .ok (.iand, 1) := by decide +kernel
theorem dX11_lowest_4 : decode cX11_lowest 4 = .ok (.iconst 1, 1) := by decide +kernel
theorem dX11_lowest_5 : decode cX11_lowest 5 = .ok (.isub, 1) := by decide +kernel
theorem dX11_lowest_6 : decode cX11_lowest 6 = .ok (.invokestatic 307, 3) := by decide +kernel
theorem dX11_lowest_9 : decode cX11_lowest 9 = .ok (.ireturn, 1) := by decide +kernel
theorem dX12_init_0 : decode cX12_init 0 = .ok (.aload_n 0, 1) := by decide +kernel
theorem dX12_init_1 : decode cX12_init 1 = .ok (.invokespecial 1, 3) := by decide +kernel
theorem dX12_init_4 : decode cX12_init 4 = .ok (.aload_n 0, 1) := by decide +kernel
theorem dX12_init_5 : decode cX12_init 5 = .ok (.sipush 1720, 3) := by decide +kernel
theorem dX12_init_8 : decode cX12_init 8 = .ok (.newarray .byte, 2) := by decide +kernel
theorem dX12_init_10 : decode cX12_init 10 = .ok (.putfield 7, 3) := by decide +kernel
theorem dX12_init_13 : decode cX12_init 13 = .ok (.aload_n 0, 1) := by decide +kernel
theorem dX12_init_14 : decode cX12_init 14 = .ok (.sipush 1700, 3) := by decide +kernel
theorem dX12_init_17 : decode cX12_init 17 = .ok (.newarray .byte, 2) := by decide +kernel
theorem dX12_init_19 : decode cX12_init 19 = .ok (.putfield 13, 3) := by decide +kernel
theorem dX12_init_22 : decode cX12_init 22 = .ok (.aload_n 0, 1) := by decide +kernel
theorem dX12_init_23 : decode cX12_init 23 = .ok (.iconst (-1), 1) := by decide +kernel
theorem dX12_init_24 : decode cX12_init 24 = .ok (.putfield 16, 3) := by decide +kernel
theorem dX12_init_27 : decode cX12_init 27 = .ok (.aload_n 0, 1) := by decide +kernel
theorem dX12_init_28 : decode cX12_init 28 = .ok (.iconst 2, 1) := by decide +kernel
theorem dX12_init_29 : decode cX12_init 29 = .ok (.newarray .int, 2) := by decide +kernel
theorem dX12_init_31 : decode cX12_init 31 = .ok (.putfield 20, 3) := by decide +kernel
theorem dX12_init_34 : decode cX12_init 34 = .ok (.aload_n 0, 1) := by decide +kernel
theorem dX12_init_35 : decode cX12_init 35 = .ok (.iconst 2, 1) := by decide +kernel
theorem dX12_init_36 : decode cX12_init 36 = .ok (.newarray .int, 2) := by decide +kernel
theorem dX12_init_38 : decode cX12_init 38 = .ok (.putfield 24, 3) := by decide +kernel
theorem dX12_init_41 : decode cX12_init 41 = .ok (.aload_n 0, 1) := by decide +kernel
theorem dX12_init_42 : decode cX12_init 42 = .ok (.iconst 2, 1) := by decide +kernel
theorem dX12_init_43 : decode cX12_init 43 = .ok (.newarray .int, 2) := by decide +kernel
theorem dX12_init_45 : decode cX12_init 45 = .ok (.putfield 27, 3) := by decide +kernel
theorem dX12_init_48 : decode cX12_init 48 = .ok (.aload_n 0, 1) := by decide +kernel
theorem dX12_init_49 : decode cX12_init 49 = .ok (.iconst 2, 1) := by decide +kernel
theorem dX12_init_50 : decode cX12_init 50 = .ok (.newarray .int, 2) := by decide +kernel
theorem dX12_init_52 : decode cX12_init 52 = .ok (.putfield 30, 3) := by decide +kernel
theorem dX12_init_55 : decode cX12_init 55 = .ok (.aload_n 0, 1) := by decide +kernel
theorem dX12_init_56 : decode cX12_init 56 = .ok (.iconst 2, 1) := by decide +kernel
theorem dX12_init_57 : decode cX12_init 57 = .ok (.newarray .int, 2) := by decide +kernel
theorem dX12_init_59 : decode cX12_init 59 = .ok (.putfield 33, 3) := by decide +kernel
theorem dX12_init_62 : decode cX12_init 62 = .ok (.aload_n 0, 1) := by decide +kernel
theorem dX12_init_63 : decode cX12_init 63 = .ok (.bipush 16, 2) := by decide +kernel
theorem dX12_init_65 : decode cX12_init 65 = .ok (.newarray .int, 2) := by decide +kernel
theorem dX12_init_67 : decode cX12_init 67 = .ok (.putfield 36, 3) := by decide +kernel
theorem dX12_init_70 : decode cX12_init 70 = .ok (.aload_n 0, 1) := by decide +kernel
theorem dX12_init_71 : decode cX12_init 71 = .ok (.bipush 16, 2) := by decide +kernel
theorem dX12_init_73 : decode cX12_init 73 = .ok (.newarray .int, 2) := by decide +kernel
theorem dX12_init_75 : decode cX12_init 75 = .ok (.putfield 39, 3) := by decide +kernel
theorem dX12_init_78 : decode cX12_init 78 = .ok (.aload_n 0, 1) := by decide +kernel
theorem dX12_init_79 : decode cX12_init 79 = .ok (.sipush 160, 3) := by decide +kernel
theorem dX12_init_82 : decode cX12_init 82 = .ok (.newarray .int, 2) := by decide +kernel
theorem dX12_init_84 : decode cX12_init 84 = .ok (.putfield 42, 3) := by decide +kernel
theorem dX12_init_87 : decode cX12_init 87 = .ok (.aload_n 0, 1) := by decide +kernel
theorem dX12_init_88 : decode cX12_init 88 = .ok (.bipush 16, 2) := by decide +kernel
theorem dX12_init_90 : decode cX12_init 90 = .ok (.newarray .boolean, 2) := by decide +kernel
theorem dX12_init_92 : decode cX12_init 92 = .ok (.putfield 45, 3) := by decide +kernel
theorem dX12_init_95 : decode cX12_init 95 = .ok (.aload_n 0, 1) := by decide +kernel
theorem dX12_init_96 : decode cX12_init 96 = .ok (.sipush 160, 3) := by decide +kernel
theorem dX12_init_99 : decode cX12_init 99 = .ok (.newarray .boolean, 2) := by decide +kernel
theorem dX12_init_101 : decode cX12_init 101 = .ok (.putfield 49, 3) := by decide +kernel
theorem dX12_init_104 : decode cX12_init 104 = .ok (.aload_n 0, 1) := by decide +kernel
theorem dX12_init_105 : decode cX12_init 105 = .ok (.iconst 2, 1) := by decide +kernel
theorem dX12_init_106 : decode cX12_init 106 = .ok (.newarray .boolean, 2) := by decide +kernel
theorem dX12_init_108 : decode cX12_init 108 = .ok (.putfield 52, 3) := by decide +kernel
theorem dX12_init_111 : decode cX12_init 111 = .ok (.aload_n 0, 1) := by decide +kernel
theorem dX12_init_112 : decode cX12_init 112 = .ok (.bipush 16, 2) := by decide +kernel
theorem dX12_init_114 : decode cX12_init 114 = .ok (.newarray .long, 2) := by decide +kernel
theorem dX12_init_116 : decode cX12_init 116 = .ok (.putfield 55, 3) := by decide +kernel
theorem dX12_init_119 : decode cX12_init 119 = .ok (.aload_n 0, 1) := by decide +kernel
theorem dX12_init_120 : decode cX12_init 120 = .ok (.bipush 20, 2) := by decide +kernel
theorem dX12_init_122 : decode cX12_init 122 = .ok (.newarray .long, 2) := by decide +kernel
theorem dX12_init_124 : decode cX12_init 124 = .ok (.putfield 59, 3) := by decide +kernel
theorem dX12_init_127 : decode cX12_init 127 = .ok (.aload_n 0, 1) := by decide +kernel
theorem dX12_init_128 : decode cX12_init 128 = .ok (.bipush 80, 2) := by decide +kernel
theorem dX12_init_130 : decode cX12_init 130 = .ok (.newarray .int, 2) := by decide +kernel
theorem dX12_init_132 : decode cX12_init 132 = .ok (.putfield 62, 3) := by decide +kernel
theorem dX12_init_135 : decode cX12_init 135 = .ok (.aload_n 0, 1) := by decide +kernel
theorem dX12_init_136 : decode cX12_init 136 = .ok (.bipush 80, 2) := by decide +kernel
theorem dX12_init_138 : decode cX12_init 138 = .ok (.newarray .int, 2) := by decide +kernel
theorem dX12_init_140 : decode cX12_init 140 = .ok (.putfield 65, 3) := by decide +kernel
theorem dX12_init_143 : decode cX12_init 143 = .ok (.aload_n 0, 1) := by decide +kernel
theorem dX12_init_144 : decode cX12_init 144 = .ok (.bipush 8, 2) := by decide +kernel
theorem dX12_init_146 : decode cX12_init 146 = .ok (.newarray .int, 2) := by decide +kernel
theorem dX12_init_148 : decode cX12_init 148 = .ok (.putfield 68, 3) := by decide +kernel
theorem dX12_init_151 : decode cX12_init 151 = .ok (.aload_n 0, 1) := by decide +kernel
theorem dX12_init_152 : decode cX12_init 152 = .ok (.bipush 10, 2) := by decide +kernel
theorem dX12_init_154 : decode cX12_init 154 = .ok (.newarray .int, 2) := by decide +kernel
theorem dX12_init_156 : decode cX12_init 156 = .ok (.putfield 71, 3) := by decide +kernel
theorem dX12_init_159 : decode cX12_init 159 = .ok (.aload_n 0, 1) := by decide +kernel
theorem dX12_init_160 : decode cX12_init 160 = .ok (.sipush 1024, 3) := by decide +kernel
theorem dX12_init_163 : decode cX12_init 163 = .ok (.newarray .int, 2) := by decide +kernel
theorem dX12_init_165 : decode cX12_init 165 = .ok (.putfield 74, 3) := by decide +kernel
theorem dX12_init_168 : decode cX12_init 168 = .ok (.aload_n 0, 1) := by decide +kernel
theorem dX12_init_169 : decode cX12_init 169 = .ok (.sipush 240, 3) := by decide +kernel
theorem dX12_init_172 : decode cX12_init 172 = .ok (.newarray .int, 2) := by decide +kernel
theorem dX12_init_174 : decode cX12_init 174 = .ok (.putfield 77, 3) := by decide +kernel
theorem dX12_init_177 : decode cX12_init 177 = .ok (.aload_n 0, 1) := by decide +kernel
theorem dX12_init_178 : decode cX12_init 178 = .ok (.sipush 1920, 3) := by decide +kernel
theorem dX12_init_181 : decode cX12_init 181 = .ok (.newarray .int, 2) := by decide +kernel
theorem dX12_init_183 : decode cX12_init 183 = .ok (.putfield 80, 3) := by decide +kernel
theorem dX12_init_186 : decode cX12_init 186 = .ok (.aload_n 0, 1) := by decide +kernel
theorem dX12_init_187 : decode cX12_init 187 = .ok (.sipush 484, 3) := by decide +kernel
theorem dX12_init_190 : decode cX12_init 190 = .ok (.newarray .int, 2) := by decide +kernel
theorem dX12_init_192 : decode cX12_init 192 = .ok (.putfield 83, 3) := by decide +kernel
theorem dX12_init_195 : decode cX12_init 195 = .ok (.aload_n 0, 1) := by decide +kernel
theorem dX12_init_196 : decode cX12_init 196 = .ok (.bipush 22, 2) := by decide +kernel
theorem dX12_init_198 : decode cX12_init 198 = .ok (.newarray .int, 2) := by decide +kernel
theorem dX12_init_200 : decode cX12_init 200 = .ok (.putfield 86, 3) := by decide +kernel
theorem dX12_init_203 : decode cX12_init 203 = .ok (.aload_n 0, 1) := by decide +kernel
theorem dX12_init_204 : decode cX12_init 204 = .ok (.bipush 22, 2) := by decide +kernel
theorem dX12_init_206 : decode cX12_init 206 = .ok (.newarray .int, 2) := by decide +kernel
theorem dX12_init_208 : decode cX12_init 208 = .ok (.putfield 89, 3) := by decide +kernel
theorem dX12_init_211 : decode cX12_init 211 = .ok (.aload_n 0, 1) := by decide +kernel
theorem dX12_init_212 : decode cX12_init 212 = .ok (.bipush 80, 2) := by decide +kernel
theorem dX12_init_214 : decode cX12_init 214 = .ok (.newarray .int, 2) := by decide +kernel
theorem dX12_init_216 : decode cX12_init 216 = .ok (.putfield 92, 3) := by decide +kernel
theorem dX12_init_219 : decode cX12_init 219 = .ok (.aload_n 0, 1) := by decide +kernel
theorem dX12_init_220 : decode cX12_init 220 = .ok (.sipush 3321, 3) := by decide +kernel
theorem dX12_init_223 : decode cX12_init 223 = .ok (.newarray .int, 2) := by decide +kernel
theorem dX12_init_225 : decode cX12_init 225 = .ok (.putfield 95, 3) := by decide +kernel
theorem dX12_init_228 : decode cX12_init 228 = .ok (.aload_n 0, 1) := by decide +kernel
theorem dX12_init_229 : decode cX12_init 229 = .ok (.bipush 12, 2) := by decide +kernel
theorem dX12_init_231 : decode cX12_init 231 = .ok (.newarray .int, 2) := by decide +kernel
theorem dX12_init_233 : decode cX12_init 233 = .ok (.putfield 98, 3) := by decide +kernel
theorem dX12_init_236 : decode cX12_init 236 = .ok (.aload_n 0, 1) := by decide +kernel
theorem dX12_init_237 : decode cX12_init 237 = .ok (.bipush 12, 2) := by decide +kernel
theorem dX12_init_239 : decode cX12_init 239 = .ok (.newarray .int, 2) := by decide +kernel
theorem dX12_init_241 : decode cX12_init 241 = .ok (.putfield 101, 3) := by decide +kernel
theorem dX12_init_244 : decode cX12_init 244 = .ok (.aload_n 0, 1) := by decide +kernel
theorem dX12_init_245 : decode cX12_init 245 = .ok (.bipush 120, 2) := by decide +kernel
theorem dX12_init_247 : decode cX12_init 247 = .ok (.newarray .int, 2) := by decide +kernel
theorem dX12_init_249 : decode cX12_init 249 = .ok (.putfield 104, 3) := by decide +kernel
theorem dX12_init_252 : decode cX12_init 252 = .ok (.aload_n 0, 1) := by decide +kernel
theorem dX12_init_253 : decode cX12_init 253 = .ok (.bipush 20, 2) := by decide +kernel
theorem dX12_init_255 : decode cX12_init 255 = .ok (.newarray .int, 2) := by decide +kernel
theorem dX12_init_257 : decode cX12_init 257 = .ok (.putfield 107, 3) := by decide +kernel
theorem dX12_init_260 : decode cX12_init 260 = .ok (.aload_n 0, 1) := by decide +kernel
theorem dX12_init_261 : decode cX12_init 261 = .ok (.bipush 20, 2) := by decide +kernel
theorem dX12_init_263 : decode cX12_init 263 = .ok (.newarray .int, 2) := by decide +kernel
theorem dX12_init_265 : decode cX12_init 265 = .ok (.putfield 110, 3) := by decide +kernel
theorem dX12_init_268 : decode cX12_init 268 = .ok (.aload_n 0, 1) := by decide +kernel
theorem dX12_init_269 : decode cX12_init 269 = .ok (.bipush 20, 2) := by decide +kernel
theorem dX12_init_271 : decode cX12_init 271 = .ok (.newarray .int, 2) := by decide +kernel
theorem dX12_init_273 : decode cX12_init 273 = .ok (.putfield 113, 3) := by decide +kernel
theorem dX12_init_276 : decode cX12_init 276 = .ok (.aload_n 0, 1) := by decide +kernel
theorem dX12_init_277 : decode cX12_init 277 = .ok (.bipush 20, 2) := by decide +kernel
theorem dX12_init_279 : decode cX12_init 279 = .ok (.newarray .int, 2) := by decide +kernel
theorem dX12_init_281 : decode cX12_init 281 = .ok (.putfield 116, 3) := by decide +kernel
theorem dX12_init_284 : decode cX12_init 284 = .ok (.aload_n 0, 1) := by decide +kernel
theorem dX12_init_285 : decode cX12_init 285 = .ok (.bipush 20, 2) := by decide +kernel
theorem dX12_init_287 : decode cX12_init 287 = .ok (.newarray .int, 2) := by decide +kernel
theorem dX12_init_289 : decode cX12_init 289 = .ok (.putfield 119, 3) := by decide +kernel
theorem dX12_init_292 : decode cX12_init 292 = .ok (.aload_n 0, 1) := by decide +kernel
theorem dX12_init_293 : decode cX12_init 293 = .ok (.iconst 3, 1) := by decide +kernel
theorem dX12_init_294 : decode cX12_init 294 = .ok (.newarray .int, 2) := by decide +kernel
theorem dX12_init_296 : decode cX12_init 296 = .ok (.putfield 122, 3) := by decide +kernel
theorem dX12_init_299 : decode cX12_init 299 = .ok (.aload_n 0, 1) := by decide +kernel
theorem dX12_init_300 : decode cX12_init 300 = .ok (.sipush 240, 3) := by decide +kernel
theorem dX12_init_303 : decode cX12_init 303 = .ok (.newarray .int, 2) := by decide +kernel
theorem dX12_init_305 : decode cX12_init 305 = .ok (.putfield 125, 3) := by decide +kernel
theorem dX12_init_308 : decode cX12_init 308 = .ok (.aload_n 0, 1) := by decide +kernel
theorem dX12_init_309 : decode cX12_init 309 = .ok (.invokevirtual 128, 3) := by decide +kernel
theorem dX12_init_312 : decode cX12_init 312 = .ok (.aload_n 0, 1) := by decide +kernel
theorem dX12_init_313 : decode cX12_init 313 = .ok (.invokevirtual 131, 3) := by decide +kernel
theorem dX12_init_316 : decode cX12_init 316 = .ok (.iconst 0, 1) := by decide +kernel
theorem dX12_init_317 : decode cX12_init 317 = .ok (.istore_n 1, 1) := by decide +kernel
theorem dX12_init_318 : decode cX12_init 318 = .ok (.iload_n 1, 1) := by decide +kernel
theorem dX12_init_319 : decode cX12_init 319 = .ok (.iconst 3, 1) := by decide +kernel
theorem dX12_init_320 : decode cX12_init 320 = .ok (.if_icmp .ge 16, 3) := by decide +kernel
theorem dX12_init_323 : decode cX12_init 323 = .ok (.aload_n 0, 1) := by decide +kernel
theorem dX12_init_324 : decode cX12_init 324 = .ok (.getfield 122, 3) := by decide +kernel
theorem dX12_init_327 : decode cX12_init 327 = .ok (.iload_n 1, 1) := by decide +kernel
theorem dX12_init_328 : decode cX12_init 328 = .ok (.iconst (-1), 1) := by decide +kernel
theorem dX12_init_329 : decode cX12_init 329 = .ok (.iastore, 1) := by decide +kernel
theorem dX12_init_330 : decode cX12_init 330 = .ok (.iinc 1 1, 3) := by decide +kernel
theorem dX12_init_333 : decode cX12_init 333 = .ok (.goto (-15), 3) := by decide +kernel
theorem dX12_init_336 : decode cX12_init 336 = .ok (.return_, 1) := by decide +kernel
theorem dX12_sign_0 : decode cX12_sign 0 = .ok (.iload_n 1, 1) := by decide +kernel
theorem dX12_sign_1 : decode cX12_sign 1 = .ok (.aload_n 0, 1) := by decide +kernel
theorem dX12_sign_2 : decode cX12_sign 2 = .ok (.getfield 134, 3) := by decide +kernel
theorem dX12_sign_5 : decode cX12_sign 5 = .ok (.if_icmp .ge 16, 3) := by decide +kernel
theorem dX12_sign_8 : decode cX12_sign 8 = .ok (.aload_n 0, 1) := by decide +kernel
theorem dX12_sign_9 : decode cX12_sign 9 = .ok (.getfield 13, 3) := by decide +kernel
theorem dX12_sign_12 : decode cX12_sign 12 = .ok (.iload_n 1, 1) := by decide +kernel
theorem dX12_sign_13 : decode cX12_sign 13 = .ok (.baload, 1) := by decide +kernel
theorem dX12_sign_14 : decode cX12_sign 14 = .ok (.sipush 255, 3) := by decide +kernel
theorem dX12_sign_17 : decode cX12_sign 17 = .ok (.iand, 1) := by decide +kernel
theorem dX12_sign_18 : decode cX12_sign 18 = .ok (.goto 4, 3) := by decide +kernel
theorem dX12_sign_21 : decode cX12_sign 21 = .ok (.iconst 0, 1) := by decide +kernel
theorem dX12_sign_22 : decode cX12_sign 22 = .ok (.ireturn, 1) := by decide +kernel
theorem dX12_isLetter_0 : decode cX12_isLetter 0 = .ok (.iload_n 0, 1) := by decide +kernel
theorem dX12_isLetter_1 : decode cX12_isLetter 1 = .ok (.bipush 97, 2) := by decide +kernel
theorem dX12_isLetter_3 : decode cX12_isLetter 3 = .ok (.if_icmp .lt 13, 3) := by decide +kernel
theorem dX12_isLetter_6 : decode cX12_isLetter 6 = .ok (.iload_n 0, 1) := by decide +kernel
theorem dX12_isLetter_7 : decode cX12_isLetter 7 = .ok (.bipush 122, 2) := by decide +kernel
theorem dX12_isLetter_9 : decode cX12_isLetter 9 = .ok (.if_icmp .gt 7, 3) := by decide +kernel
theorem dX12_isLetter_12 : decode cX12_isLetter 12 = .ok (.iconst 1, 1) := by decide +kernel
theorem dX12_isLetter_13 : decode cX12_isLetter 13 = .ok (.goto 4, 3) := by decide +kernel
theorem dX12_isLetter_16 : decode cX12_isLetter 16 = .ok (.iconst 0, 1) := by decide +kernel
theorem dX12_isLetter_17 : decode cX12_isLetter 17 = .ok (.ireturn, 1) := by decide +kernel
theorem dX12_isDigit_0 : decode cX12_isDigit 0 = .ok (.iload_n 0, 1) := by decide +kernel
theorem dX12_isDigit_1 : decode cX12_isDigit 1 = .ok (.bipush 48, 2) := by decide +kernel
theorem dX12_isDigit_3 : decode cX12_isDigit 3 = .ok (.if_icmp .lt 13, 3) := by decide +kernel
theorem dX12_isDigit_6 : decode cX12_isDigit 6 = .ok (.iload_n 0, 1) := by decide +kernel
theorem dX12_isDigit_7 : decode cX12_isDigit 7 = .ok (.bipush 57, 2) := by decide +kernel
theorem dX12_isDigit_9 : decode cX12_isDigit 9 = .ok (.if_icmp .gt 7, 3) := by decide +kernel
theorem dX12_isDigit_12 : decode cX12_isDigit 12 = .ok (.iconst 1, 1) := by decide +kernel
theorem dX12_isDigit_13 : decode cX12_isDigit 13 = .ok (.goto 4, 3) := by decide +kernel
theorem dX12_isDigit_16 : decode cX12_isDigit 16 = .ok (.iconst 0, 1) := by decide +kernel
theorem dX12_isDigit_17 : decode cX12_isDigit 17 = .ok (.ireturn, 1) := by decide +kernel
theorem dX12_fails_0 : decode cX12_fails 0 = .ok (.aload_n 0, 1) := by decide +kernel
theorem dX12_fails_1 : decode cX12_fails 1 = .ok (.getfield 137, 3) := by decide +kernel
theorem dX12_fails_4 : decode cX12_fails 4 = .ok (.ifCond .le 4, 3) := by decide +kernel
theorem dX12_fails_7 : decode cX12_fails 7 = .ok (.return_, 1) := by decide +kernel
theorem dX12_fails_8 : decode cX12_fails 8 = .ok (.aload_n 0, 1) := by decide +kernel
theorem dX12_fails_9 : decode cX12_fails 9 = .ok (.iload_n 1, 1) := by decide +kernel
theorem dX12_fails_10 : decode cX12_fails 10 = .ok (.putfield 137, 3) := by decide +kernel
theorem dX12_fails_13 : decode cX12_fails 13 = .ok (.aload_n 0, 1) := by decide +kernel
theorem dX12_fails_14 : decode cX12_fails 14 = .ok (.iload_n 2, 1) := by decide +kernel
theorem dX12_fails_15 : decode cX12_fails 15 = .ok (.putfield 16, 3) := by decide +kernel
theorem dX12_fails_18 : decode cX12_fails 18 = .ok (.return_, 1) := by decide +kernel
theorem dX12_isGood_0 : decode cX12_isGood 0 = .ok (.aload_n 0, 1) := by decide +kernel
theorem dX12_isGood_1 : decode cX12_isGood 1 = .ok (.getfield 137, 3) := by decide +kernel
theorem dX12_isGood_4 : decode cX12_isGood 4 = .ok (.ifCond .ne 7, 3) := by decide +kernel
theorem dX12_isGood_7 : decode cX12_isGood 7 = .ok (.iconst 1, 1) := by decide +kernel
