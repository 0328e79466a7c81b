theorem dX8_reach_16 : decode cX8_reach 16 = .ok (.getfield 11, 3) := by decide +kernel
theorem dX8_reach_19 : decode cX8_reach 19 = .ok (.iload 4, 2) := by decide +kernel
theorem dX8_reach_21 : decode cX8_reach 21 = .ok (.aaload, 1) := by decide +kernel
theorem dX8_reach_22 : decode cX8_reach 22 = .ok (.aload_n 1, 1) := by decide +kernel
theorem dX8_reach_23 : decode cX8_reach 23 = .ok (.invokevirtual 40, 3) := by decide +kernel
theorem dX8_reach_26 : decode cX8_reach 26 = .ok (.lload_n 2, 1) := by decide +kernel
theorem dX8_reach_27 : decode cX8_reach 27 = .ok (.lcmp, 1) := by decide +kernel
theorem dX8_reach_28 : decode cX8_reach 28 = .ok (.ifCond .lt 5, 3) := by decide +kernel
theorem dX8_reach_31 : decode cX8_reach 31 = .ok (.iconst 1, 1) := by decide +kernel
theorem dX8_reach_32 : decode cX8_reach 32 = .ok (.ireturn, 1) := by decide +kernel
theorem dX8_reach_33 : decode cX8_reach 33 = .ok (.iinc 4 (-1), 3) := by decide +kernel
theorem dX8_reach_36 : decode cX8_reach 36 = .ok (.goto (-30), 3) := by decide +kernel
theorem dX8_reach_39 : decode cX8_reach 39 = .ok (.iconst 0, 1) := by decide +kernel
theorem dX8_reach_40 : decode cX8_reach 40 = .ok (.ireturn, 1) := by decide +kernel
theorem dX9_init_0 : decode cX9_init 0 = .ok (.aload_n 0, 1) := by decide +kernel
theorem dX9_init_1 : decode cX9_init 1 = .ok (.invokespecial 3, 3) := by decide +kernel
theorem dX9_init_4 : decode cX9_init 4 = .ok (.aload_n 0, 1) := by decide +kernel
theorem dX9_init_5 : decode cX9_init 5 = .ok (.bipush 6, 2) := by decide +kernel
theorem dX9_init_7 : decode cX9_init 7 = .ok (.bipush 24, 2) := by decide +kernel
theorem dX9_init_9 : decode cX9_init 9 = .ok (.multianewarray 9 2, 4) := by decide +kernel
theorem dX9_init_13 : decode cX9_init 13 = .ok (.putfield 11, 3) := by decide +kernel
theorem dX9_init_16 : decode cX9_init 16 = .ok (.aload_n 0, 1) := by decide +kernel
theorem dX9_init_17 : decode cX9_init 17 = .ok (.new 14, 3) := by decide +kernel
theorem dX9_init_20 : decode cX9_init 20 = .ok (.dup, 1) := by decide +kernel
theorem dX9_init_21 : decode cX9_init 21 = .ok (.invokespecial 16, 3) := by decide +kernel
theorem dX9_init_24 : decode cX9_init 24 = .ok (.putfield 17, 3) := by decide +kernel
theorem dX9_init_27 : decode cX9_init 27 = .ok (.aload_n 0, 1) := by decide +kernel
theorem dX9_init_28 : decode cX9_init 28 = .ok (.new 21, 3) := by decide +kernel
theorem dX9_init_31 : decode cX9_init 31 = .ok (.dup, 1) := by decide +kernel
theorem dX9_init_32 : decode cX9_init 32 = .ok (.invokespecial 23, 3) := by decide +kernel
theorem dX9_init_35 : decode cX9_init 35 = .ok (.putfield 24, 3) := by decide +kernel
theorem dX9_init_38 : decode cX9_init 38 = .ok (.aload_n 0, 1) := by decide +kernel
theorem dX9_init_39 : decode cX9_init 39 = .ok (.new 21, 3) := by decide +kernel
theorem dX9_init_42 : decode cX9_init 42 = .ok (.dup, 1) := by decide +kernel
theorem dX9_init_43 : decode cX9_init 43 = .ok (.invokespecial 23, 3) := by decide +kernel
theorem dX9_init_46 : decode cX9_init 46 = .ok (.putfield 28, 3) := by decide +kernel
theorem dX9_init_49 : decode cX9_init 49 = .ok (.aload_n 0, 1) := by decide +kernel
theorem dX9_init_50 : decode cX9_init 50 = .ok (.new 31, 3) := by decide +kernel
theorem dX9_init_53 : decode cX9_init 53 = .ok (.dup, 1) := by decide +kernel
theorem dX9_init_54 : decode cX9_init 54 = .ok (.invokespecial 33, 3) := by decide +kernel
theorem dX9_init_57 : decode cX9_init 57 = .ok (.putfield 34, 3) := by decide +kernel
theorem dX9_init_60 : decode cX9_init 60 = .ok (.aload_n 0, 1) := by decide +kernel
theorem dX9_init_61 : decode cX9_init 61 = .ok (.new 38, 3) := by decide +kernel
theorem dX9_init_64 : decode cX9_init 64 = .ok (.dup, 1) := by decide +kernel
theorem dX9_init_65 : decode cX9_init 65 = .ok (.invokespecial 40, 3) := by decide +kernel
theorem dX9_init_68 : decode cX9_init 68 = .ok (.putfield 41, 3) := by decide +kernel
theorem dX9_init_71 : decode cX9_init 71 = .ok (.aload_n 0, 1) := by decide +kernel
theorem dX9_init_72 : decode cX9_init 72 = .ok (.new 45, 3) := by decide +kernel
theorem dX9_init_75 : decode cX9_init 75 = .ok (.dup, 1) := by decide +kernel
theorem dX9_init_76 : decode cX9_init 76 = .ok (.invokespecial 47, 3) := by decide +kernel
theorem dX9_init_79 : decode cX9_init 79 = .ok (.putfield 48, 3) := by decide +kernel
theorem dX9_init_82 : decode cX9_init 82 = .ok (.aload_n 0, 1) := by decide +kernel
theorem dX9_init_83 : decode cX9_init 83 = .ok (.new 52, 3) := by decide +kernel
theorem dX9_init_86 : decode cX9_init 86 = .ok (.dup, 1) := by decide +kernel
theorem dX9_init_87 : decode cX9_init 87 = .ok (.invokespecial 54, 3) := by decide +kernel
theorem dX9_init_90 : decode cX9_init 90 = .ok (.putfield 55, 3) := by decide +kernel
theorem dX9_init_93 : decode cX9_init 93 = .ok (.aload_n 0, 1) := by decide +kernel
theorem dX9_init_94 : decode cX9_init 94 = .ok (.new 52, 3) := by decide +kernel
theorem dX9_init_97 : decode cX9_init 97 = .ok (.dup, 1) := by decide +kernel
theorem dX9_init_98 : decode cX9_init 98 = .ok (.invokespecial 54, 3) := by decide +kernel
theorem dX9_init_101 : decode cX9_init 101 = .ok (.putfield 59, 3) := by decide +kernel
theorem dX9_init_104 : decode cX9_init 104 = .ok (.aload_n 0, 1) := by decide +kernel
theorem dX9_init_105 : decode cX9_init 105 = .ok (.new 62, 3) := by decide +kernel
theorem dX9_init_108 : decode cX9_init 108 = .ok (.dup, 1) := by decide +kernel
theorem dX9_init_109 : decode cX9_init 109 = .ok (.invokespecial 64, 3) := by decide +kernel
theorem dX9_init_112 : decode cX9_init 112 = .ok (.putfield 65, 3) := by decide +kernel
theorem dX9_init_115 : decode cX9_init 115 = .ok (.aload_n 0, 1) := by decide +kernel
theorem dX9_init_116 : decode cX9_init 116 = .ok (.new 69, 3) := by decide +kernel
theorem dX9_init_119 : decode cX9_init 119 = .ok (.dup, 1) := by decide +kernel
theorem dX9_init_120 : decode cX9_init 120 = .ok (.invokespecial 71, 3) := by decide +kernel
theorem dX9_init_123 : decode cX9_init 123 = .ok (.putfield 72, 3) := by decide +kernel
theorem dX9_init_126 : decode cX9_init 126 = .ok (.iconst 0, 1) := by decide +kernel
theorem dX9_init_127 : decode cX9_init 127 = .ok (.istore_n 1, 1) := by decide +kernel
theorem dX9_init_128 : decode cX9_init 128 = .ok (.iload_n 1, 1) := by decide +kernel
theorem dX9_init_129 : decode cX9_init 129 = .ok (.bipush 6, 2) := by decide +kernel
theorem dX9_init_131 : decode cX9_init 131 = .ok (.if_icmp .ge 33, 3) := by decide +kernel
theorem dX9_init_134 : decode cX9_init 134 = .ok (.iconst 0, 1) := by decide +kernel
theorem dX9_init_135 : decode cX9_init 135 = .ok (.istore_n 2, 1) := by decide +kernel
theorem dX9_init_136 : decode cX9_init 136 = .ok (.iload_n 2, 1) := by decide +kernel
theorem dX9_init_137 : decode cX9_init 137 = .ok (.bipush 24, 2) := by decide +kernel
theorem dX9_init_139 : decode cX9_init 139 = .ok (.if_icmp .ge 19, 3) := by decide +kernel
theorem dX9_init_142 : decode cX9_init 142 = .ok (.aload_n 0, 1) := by decide +kernel
theorem dX9_init_143 : decode cX9_init 143 = .ok (.getfield 11, 3) := by decide +kernel
theorem dX9_init_146 : decode cX9_init 146 = .ok (.iload_n 1, 1) := by decide +kernel
theorem dX9_init_147 : decode cX9_init 147 = .ok (.aaload, 1) := by decide +kernel
theorem dX9_init_148 : decode cX9_init 148 = .ok (.iload_n 2, 1) := by decide +kernel
theorem dX9_init_149 : decode cX9_init 149 = .ok (.ldc 76, 2) := by decide +kernel
theorem dX9_init_151 : decode cX9_init 151 = .ok (.iastore, 1) := by decide +kernel
theorem dX9_init_152 : decode cX9_init 152 = .ok (.iinc 2 1, 3) := by decide +kernel
theorem dX9_init_155 : decode cX9_init 155 = .ok (.goto (-19), 3) := by decide +kernel
theorem dX9_init_158 : decode cX9_init 158 = .ok (.iinc 1 1, 3) := by decide +kernel
theorem dX9_init_161 : decode cX9_init 161 = .ok (.goto (-33), 3) := by decide +kernel
theorem dX9_init_164 : decode cX9_init 164 = .ok (.return_, 1) := by decide +kernel
theorem dX9_year_0 : decode cX9_year 0 = .ok (.iload_n 1, 1) := by decide +kernel
theorem dX9_year_1 : decode cX9_year 1 = .ok (.invokestatic 77, 3) := by decide +kernel
theorem dX9_year_4 : decode cX9_year 4 = .ok (.ifCond .ne 6, 3) := by decide +kernel
theorem dX9_year_7 : decode cX9_year 7 = .ok (.ldc 81, 2) := by decide +kernel
theorem dX9_year_9 : decode cX9_year 9 = .ok (.ireturn, 1) := by decide +kernel
theorem dX9_year_10 : decode cX9_year 10 = .ok (.iload_n 2, 1) := by decide +kernel
theorem dX9_year_11 : decode cX9_year 11 = .ok (.invokestatic 82, 3) := by decide +kernel
theorem dX9_year_14 : decode cX9_year 14 = .ok (.ifCond .eq 10, 3) := by decide +kernel
theorem dX9_year_17 : decode cX9_year 17 = .ok (.iload_n 3, 1) := by decide +kernel
theorem dX9_year_18 : decode cX9_year 18 = .ok (.invokestatic 85, 3) := by decide +kernel
theorem dX9_year_21 : decode cX9_year 21 = .ok (.ifCond .ne 6, 3) := by decide +kernel
theorem dX9_year_24 : decode cX9_year 24 = .ok (.ldc 88, 2) := by decide +kernel
theorem dX9_year_26 : decode cX9_year 26 = .ok (.ireturn, 1) := by decide +kernel
theorem dX9_year_27 : decode cX9_year 27 = .ok (.aload_n 0, 1) := by decide +kernel
theorem dX9_year_28 : decode cX9_year 28 = .ok (.getfield 11, 3) := by decide +kernel
theorem dX9_year_31 : decode cX9_year 31 = .ok (.iload_n 1, 1) := by decide +kernel
theorem dX9_year_32 : decode cX9_year 32 = .ok (.aaload, 1) := by decide +kernel
theorem dX9_year_33 : decode cX9_year 33 = .ok (.iload_n 2, 1) := by decide +kernel
theorem dX9_year_34 : decode cX9_year 34 = .ok (.iaload, 1) := by decide +kernel
theorem dX9_year_35 : decode cX9_year 35 = .ok (.istore 4, 2) := by decide +kernel
theorem dX9_year_37 : decode cX9_year 37 = .ok (.aload_n 0, 1) := by decide +kernel
theorem dX9_year_38 : decode cX9_year 38 = .ok (.getfield 11, 3) := by decide +kernel
theorem dX9_year_41 : decode cX9_year 41 = .ok (.iload_n 1, 1) := by decide +kernel
theorem dX9_year_42 : decode cX9_year 42 = .ok (.aaload, 1) := by decide +kernel
theorem dX9_year_43 : decode cX9_year 43 = .ok (.iload_n 2, 1) := by decide +kernel
theorem dX9_year_44 : decode cX9_year 44 = .ok (.iload_n 3, 1) := by decide +kernel
theorem dX9_year_45 : decode cX9_year 45 = .ok (.iastore, 1) := by decide +kernel
theorem dX9_year_46 : decode cX9_year 46 = .ok (.iload 4, 2) := by decide +kernel
theorem dX9_year_48 : decode cX9_year 48 = .ok (.ireturn, 1) := by decide +kernel
theorem dX9_say_0 : decode cX9_say 0 = .ok (.iload_n 1, 1) := by decide +kernel
theorem dX9_say_1 : decode cX9_say 1 = .ok (.bipush 33, 2) := by decide +kernel
theorem dX9_say_3 : decode cX9_say 3 = .ok (.bipush 126, 2) := by decide +kernel
theorem dX9_say_5 : decode cX9_say 5 = .ok (.invokestatic 89, 3) := by decide +kernel
theorem dX9_say_8 : decode cX9_say 8 = .ok (.ifCond .ne 6, 3) := by decide +kernel
theorem dX9_say_11 : decode cX9_say 11 = .ok (.bipush (-2), 2) := by decide +kernel
theorem dX9_say_13 : decode cX9_say 13 = .ok (.ireturn, 1) := by decide +kernel
theorem dX9_say_14 : decode cX9_say 14 = .ok (.aload_n 0, 1) := by decide +kernel
theorem dX9_say_15 : decode cX9_say 15 = .ok (.getfield 17, 3) := by decide +kernel
theorem dX9_say_18 : decode cX9_say 18 = .ok (.invokevirtual 93, 3) := by decide +kernel
theorem dX9_say_21 : decode cX9_say 21 = .ok (.ifCond .eq 6, 3) := by decide +kernel
theorem dX9_say_24 : decode cX9_say 24 = .ok (.bipush (-4), 2) := by decide +kernel
theorem dX9_say_26 : decode cX9_say 26 = .ok (.ireturn, 1) := by decide +kernel
theorem dX9_say_27 : decode cX9_say 27 = .ok (.aload_n 0, 1) := by decide +kernel
theorem dX9_say_28 : decode cX9_say 28 = .ok (.getfield 17, 3) := by decide +kernel
theorem dX9_say_31 : decode cX9_say 31 = .ok (.iload_n 1, 1) := by decide +kernel
theorem dX9_say_32 : decode cX9_say 32 = .ok (.invokevirtual 97, 3) := by decide +kernel
theorem dX9_say_35 : decode cX9_say 35 = .ok (.aload_n 0, 1) := by decide +kernel
theorem dX9_say_36 : decode cX9_say 36 = .ok (.getfield 17, 3) := by decide +kernel
theorem dX9_say_39 : decode cX9_say 39 = .ok (.getfield 101, 3) := by decide +kernel
theorem dX9_say_42 : decode cX9_say 42 = .ok (.ireturn, 1) := by decide +kernel
theorem dX9_wipe_0 : decode cX9_wipe 0 = .ok (.aload_n 0, 1) := by decide +kernel
theorem dX9_wipe_1 : decode cX9_wipe 1 = .ok (.getfield 17, 3) := by decide +kernel
theorem dX9_wipe_4 : decode cX9_wipe 4 = .ok (.getfield 101, 3) := by decide +kernel
theorem dX9_wipe_7 : decode cX9_wipe 7 = .ok (.istore_n 1, 1) := by decide +kernel
theorem dX9_wipe_8 : decode cX9_wipe 8 = .ok (.aload_n 0, 1) := by decide +kernel
theorem dX9_wipe_9 : decode cX9_wipe 9 = .ok (.getfield 17, 3) := by decide +kernel
theorem dX9_wipe_12 : decode cX9_wipe 12 = .ok (.invokevirtual 105, 3) := by decide +kernel
theorem dX9_wipe_15 : decode cX9_wipe 15 = .ok (.iload_n 1, 1) := by decide +kernel
theorem dX9_wipe_16 : decode cX9_wipe 16 = .ok (.ireturn, 1) := by decide +kernel
theorem dX9_fault_0 : decode cX9_fault 0 = .ok (.aload_n 0, 1) := by decide +kernel
theorem dX9_fault_1 : decode cX9_fault 1 = .ok (.getfield 17, 3) := by decide +kernel
theorem dX9_fault_4 : decode cX9_fault 4 = .ok (.invokevirtual 108, 3) := by decide +kernel
theorem dX9_fault_7 : decode cX9_fault 7 = .ok (.ireturn, 1) := by decide +kernel
theorem dX9_dealt_0 : decode cX9_dealt 0 = .ok (.aload_n 0, 1) := by decide +kernel
theorem dX9_dealt_1 : decode cX9_dealt 1 = .ok (.iload_n 1, 1) := by decide +kernel
theorem dX9_dealt_2 : decode cX9_dealt 2 = .ok (.invokestatic 77, 3) := by decide +kernel
theorem dX9_dealt_5 : decode cX9_dealt 5 = .ok (.iload_n 2, 1) := by decide +kernel
theorem dX9_dealt_6 : decode cX9_dealt 6 = .ok (.invokestatic 82, 3) := by decide +kernel
theorem dX9_dealt_9 : decode cX9_dealt 9 = .ok (.invokevirtual 112, 3) := by decide +kernel
theorem dX9_dealt_12 : decode cX9_dealt 12 = .ok (.istore_n 3, 1) := by decide +kernel
theorem dX9_dealt_13 : decode cX9_dealt 13 = .ok (.iload_n 3, 1) := by decide +kernel
theorem dX9_dealt_14 : decode cX9_dealt 14 = .ok (.ifCond .eq 8, 3) := by decide +kernel
theorem dX9_dealt_17 : decode cX9_dealt 17 = .ok (.ldc 76, 2) := by decide +kernel
theorem dX9_dealt_19 : decode cX9_dealt 19 = .ok (.iload_n 3, 1) := by decide +kernel
theorem dX9_dealt_20 : decode cX9_dealt 20 = .ok (.iadd, 1) := by decide +kernel
theorem dX9_dealt_21 : decode cX9_dealt 21 = .ok (.ireturn, 1) := by decide +kernel
theorem dX9_dealt_22 : decode cX9_dealt 22 = .ok (.aload_n 0, 1) := by decide +kernel
theorem dX9_dealt_23 : decode cX9_dealt 23 = .ok (.getfield 17, 3) := by decide +kernel
theorem dX9_dealt_26 : decode cX9_dealt 26 = .ok (.aload_n 0, 1) := by decide +kernel
theorem dX9_dealt_27 : decode cX9_dealt 27 = .ok (.getfield 11, 3) := by decide +kernel
theorem dX9_dealt_30 : decode cX9_dealt 30 = .ok (.iload_n 1, 1) := by decide +kernel
theorem dX9_dealt_31 : decode cX9_dealt 31 = .ok (.aaload, 1) := by decide +kernel
theorem dX9_dealt_32 : decode cX9_dealt 32 = .ok (.aload_n 0, 1) := by decide +kernel
theorem dX9_dealt_33 : decode cX9_dealt 33 = .ok (.getfield 24, 3) := by decide +kernel
theorem dX9_dealt_36 : decode cX9_dealt 36 = .ok (.getfield 116, 3) := by decide +kernel
theorem dX9_dealt_39 : decode cX9_dealt 39 = .ok (.invokevirtual 120, 3) := by decide +kernel
theorem dX9_dealt_42 : decode cX9_dealt 42 = .ok (.aload_n 0, 1) := by decide +kernel
theorem dX9_dealt_43 : decode cX9_dealt 43 = .ok (.getfield 24, 3) := by decide +kernel
theorem dX9_dealt_46 : decode cX9_dealt 46 = .ok (.getfield 116, 3) := by decide +kernel
theorem dX9_dealt_49 : decode cX9_dealt 49 = .ok (.iload_n 2, 1) := by decide +kernel
theorem dX9_dealt_50 : decode cX9_dealt 50 = .ok (.iaload, 1) := by decide +kernel
theorem dX9_dealt_51 : decode cX9_dealt 51 = .ok (.ireturn, 1) := by decide +kernel
theorem dX9_share_0 : decode cX9_share 0 = .ok (.aload_n 0, 1) := by decide +kernel
theorem dX9_share_1 : decode cX9_share 1 = .ok (.iload_n 1, 1) := by decide +kernel
theorem dX9_share_2 : decode cX9_share 2 = .ok (.invokestatic 77, 3) := by decide +kernel
theorem dX9_share_5 : decode cX9_share 5 = .ok (.iload_n 2, 1) := by decide +kernel
theorem dX9_share_6 : decode cX9_share 6 = .ok (.invokestatic 124, 3) := by decide +kernel
theorem dX9_share_9 : decode cX9_share 9 = .ok (.ifCond .eq 14, 3) := by decide +kernel
theorem dX9_share_12 : decode cX9_share 12 = .ok (.iload_n 3, 1) := by decide +kernel
theorem dX9_share_13 : decode cX9_share 13 = .ok (.invokestatic 127, 3) := by decide +kernel
theorem dX9_share_16 : decode cX9_share 16 = .ok (.ifCond .eq 7, 3) := by decide +kernel
theorem dX9_share_19 : decode cX9_share 19 = .ok (.iconst 1, 1) := by decide +kernel
theorem dX9_share_20 : decode cX9_share 20 = .ok (.goto 4, 3) := by decide +kernel
theorem dX9_share_23 : decode cX9_share 23 = .ok (.iconst 0, 1) := by decide +kernel
theorem dX9_share_24 : decode cX9_share 24 = .ok (.invokevirtual 112, 3) := by decide +kernel
theorem dX9_share_27 : decode cX9_share 27 = .ok (.istore 4, 2) := by decide +kernel
theorem dX9_share_29 : decode cX9_share 29 = .ok (.iload 4, 2) := by decide +kernel
theorem dX9_share_31 : decode cX9_share 31 = .ok (.ifCond .eq 11, 3) := by decide +kernel
theorem dX9_share_34 : decode cX9_share 34 = .ok (.ldc2_w 130, 3) := by decide +kernel
theorem dX9_share_37 : decode cX9_share 37 = .ok (.iload 4, 2) := by decide +kernel
theorem dX9_share_39 : decode cX9_share 39 = .ok (.i2l, 1) := by decide +kernel
theorem dX9_share_40 : decode cX9_share 40 = .ok (.ladd, 1) := by decide +kernel
theorem dX9_share_41 : decode cX9_share 41 = .ok (.lreturn, 1) := by decide +kernel
theorem dX9_share_42 : decode cX9_share 42 = .ok (.aload_n 0, 1) := by decide +kernel
theorem dX9_share_43 : decode cX9_share 43 = .ok (.iload_n 1, 1) := by decide +kernel
theorem dX9_share_44 : decode cX9_share 44 = .ok (.iload_n 2, 1) := by decide +kernel
theorem dX9_share_45 : decode cX9_share 45 = .ok (.invokevirtual 132, 3) := by decide +kernel
theorem dX9_share_48 : decode cX9_share 48 = .ok (.aload_n 0, 1) := by decide +kernel
theorem dX9_share_49 : decode cX9_share 49 = .ok (.getfield 55, 3) := by decide +kernel
theorem dX9_share_52 : decode cX9_share 52 = .ok (.iload_n 3, 1) := by decide +kernel
theorem dX9_share_53 : decode cX9_share 53 = .ok (.invokevirtual 136, 3) := by decide +kernel
theorem dX9_share_56 : decode cX9_share 56 = .ok (.lreturn, 1) := by decide +kernel
theorem dX9_odds_0 : decode cX9_odds 0 = .ok (.aload_n 0, 1) := by decide +kernel
theorem dX9_odds_1 : decode cX9_odds 1 = .ok (.iload_n 1, 1) := by decide +kernel
theorem dX9_odds_2 : decode cX9_odds 2 = .ok (.iload_n 2, 1) := by decide +kernel
theorem dX9_odds_3 : decode cX9_odds 3 = .ok (.iload_n 2, 1) := by decide +kernel
theorem dX9_odds_4 : decode cX9_odds 4 = .ok (.iload_n 3, 1) := by decide +kernel
theorem dX9_odds_5 : decode cX9_odds 5 = .ok (.invokevirtual 140, 3) := by decide +kernel
theorem dX9_odds_8 : decode cX9_odds 8 = .ok (.lreturn, 1) := by decide +kernel
theorem dX9_tried_0 : decode cX9_tried 0 = .ok (.aload_n 0, 1) := by decide +kernel
theorem dX9_tried_1 : decode cX9_tried 1 = .ok (.iload_n 1, 1) := by decide +kernel
theorem dX9_tried_2 : decode cX9_tried 2 = .ok (.iload_n 2, 1) := by decide +kernel
theorem dX9_tried_3 : decode cX9_tried 3 = .ok (.iload_n 3, 1) := by decide +kernel
theorem dX9_tried_4 : decode cX9_tried 4 = .ok (.iload 4, 2) := by decide +kernel
theorem dX9_tried_6 : decode cX9_tried 6 = .ok (.invokevirtual 140, 3) := by decide +kernel
theorem dX9_tried_9 : decode cX9_tried 9 = .ok (.lreturn, 1) := by decide +kernel
theorem dX9_drawn_0 : decode cX9_drawn 0 = .ok (.iload_n 2, 1) := by decide +kernel
theorem dX9_drawn_1 : decode cX9_drawn 1 = .ok (.invokestatic 124, 3) := by decide +kernel
theorem dX9_drawn_4 : decode cX9_drawn 4 = .ok (.ifCond .eq 28, 3) := by decide +kernel
theorem dX9_drawn_7 : decode cX9_drawn 7 = .ok (.iload_n 3, 1) := by decide +kernel
theorem dX9_drawn_8 : decode cX9_drawn 8 = .ok (.iconst 1, 1) := by decide +kernel
theorem dX9_drawn_9 : decode cX9_drawn 9 = .ok (.bipush 100, 2) := by decide +kernel
theorem dX9_drawn_11 : decode cX9_drawn 11 = .ok (.invokestatic 89, 3) := by decide +kernel
theorem dX9_drawn_14 : decode cX9_drawn 14 = .ok (.ifCond .eq 18, 3) := by decide +kernel
theorem dX9_drawn_17 : decode cX9_drawn 17 = .ok (.iload 4, 2) := by decide +kernel
theorem dX9_drawn_19 : decode cX9_drawn 19 = .ok (.iconst 1, 1) := by decide +kernel
theorem dX9_drawn_20 : decode cX9_drawn 20 = .ok (.ldc 144, 2) := by decide +kernel
theorem dX9_drawn_22 : decode cX9_drawn 22 = .ok (.invokestatic 89, 3) := by decide +kernel
theorem dX9_drawn_25 : decode cX9_drawn 25 = .ok (.ifCond .eq 7, 3) := by decide +kernel
theorem dX9_drawn_28 : decode cX9_drawn 28 = .ok (.iconst 1, 1) := by decide +kernel
theorem dX9_drawn_29 : decode cX9_drawn 29 = .ok (.goto 4, 3) := by decide +kernel
theorem dX9_drawn_32 : decode cX9_drawn 32 = .ok (.iconst 0, 1) := by decide +kernel
theorem dX9_drawn_33 : decode cX9_drawn 33 = .ok (.istore 5, 2) := by decide +kernel
theorem dX9_drawn_35 : decode cX9_drawn 35 = .ok (.aload_n 0, 1) := by decide +kernel
theorem dX9_drawn_36 : decode cX9_drawn 36 = .ok (.iload_n 1, 1) := by decide +kernel
theorem dX9_drawn_37 : decode cX9_drawn 37 = .ok (.invokestatic 77, 3) := by decide +kernel
theorem dX9_drawn_40 : decode cX9_drawn 40 = .ok (.iload 5, 2) := by decide +kernel
theorem dX9_drawn_42 : decode cX9_drawn 42 = .ok (.invokevirtual 112, 3) := by decide +kernel
theorem dX9_drawn_45 : decode cX9_drawn 45 = .ok (.istore 6, 2) := by decide +kernel
theorem dX9_drawn_47 : decode cX9_drawn 47 = .ok (.iload 6, 2) := by decide +kernel
theorem dX9_drawn_49 : decode cX9_drawn 49 = .ok (.ifCond .eq 6, 3) := by decide +kernel
theorem dX9_drawn_52 : decode cX9_drawn 52 = .ok (.iload 6, 2) := by decide +kernel
theorem dX9_drawn_54 : decode cX9_drawn 54 = .ok (.ireturn, 1) := by decide +kernel
theorem dX9_drawn_55 : decode cX9_drawn 55 = .ok (.aload_n 0, 1) := by decide +kernel
theorem dX9_drawn_56 : decode cX9_drawn 56 = .ok (.iload_n 1, 1) := by decide +kernel
theorem dX9_drawn_57 : decode cX9_drawn 57 = .ok (.bipush 24, 2) := by decide +kernel
theorem dX9_drawn_59 : decode cX9_drawn 59 = .ok (.iload_n 2, 1) := by decide +kernel
theorem dX9_drawn_60 : decode cX9_drawn 60 = .ok (.iload_n 2, 1) := by decide +kernel
theorem dX9_drawn_61 : decode cX9_drawn 61 = .ok (.invokevirtual 145, 3) := by decide +kernel
theorem dX9_drawn_64 : decode cX9_drawn 64 = .ok (.aload_n 0, 1) := by decide +kernel
theorem dX9_drawn_65 : decode cX9_drawn 65 = .ok (.getfield 34, 3) := by decide +kernel
theorem dX9_drawn_68 : decode cX9_drawn 68 = .ok (.aload_n 0, 1) := by decide +kernel
theorem dX9_drawn_69 : decode cX9_drawn 69 = .ok (.getfield 24, 3) := by decide +kernel
theorem dX9_drawn_72 : decode cX9_drawn 72 = .ok (.getfield 149, 3) := by decide +kernel
theorem dX9_drawn_75 : decode cX9_drawn 75 = .ok (.invokevirtual 152, 3) := by decide +kernel
theorem dX9_drawn_78 : decode cX9_drawn 78 = .ok (.lstore 7, 2) := by decide +kernel
theorem dX9_drawn_80 : decode cX9_drawn 80 = .ok (.aload_n 0, 1) := by decide +kernel
theorem dX9_drawn_81 : decode cX9_drawn 81 = .ok (.getfield 41, 3) := by decide +kernel
theorem dX9_drawn_84 : decode cX9_drawn 84 = .ok (.aload_n 0, 1) := by decide +kernel
theorem dX9_drawn_85 : decode cX9_drawn 85 = .ok (.getfield 24, 3) := by decide +kernel
theorem dX9_drawn_88 : decode cX9_drawn 88 = .ok (.iload 4, 2) := by decide +kernel
theorem dX9_drawn_90 : decode cX9_drawn 90 = .ok (.invokevirtual 156, 3) := by decide +kernel
theorem dX9_drawn_93 : decode cX9_drawn 93 = .ok (.iconst 0, 1) := by decide +kernel
theorem dX9_drawn_94 : decode cX9_drawn 94 = .ok (.istore 9, 2) := by decide +kernel
theorem dX9_drawn_96 : decode cX9_drawn 96 = .ok (.iconst 0, 1) := by decide +kernel
theorem dX9_drawn_97 : decode cX9_drawn 97 = .ok (.istore 10, 2) := by decide +kernel
theorem dX9_drawn_99 : decode cX9_drawn 99 = .ok (.iload 10, 2) := by decide +kernel
theorem dX9_drawn_101 : decode cX9_drawn 101 = .ok (.iload_n 3, 1) := by decide +kernel
theorem dX9_drawn_102 : decode cX9_drawn 102 = .ok (.if_icmp .ge 38, 3) := by decide +kernel
theorem dX9_drawn_105 : decode cX9_drawn 105 = .ok (.aload_n 0, 1) := by decide +kernel
theorem dX9_drawn_106 : decode cX9_drawn 106 = .ok (.getfield 41, 3) := by decide +kernel
theorem dX9_drawn_109 : decode cX9_drawn 109 = .ok (.invokevirtual 160, 3) := by decide +kernel
theorem dX9_drawn_112 : decode cX9_drawn 112 = .ok (.aload_n 0, 1) := by decide +kernel
theorem dX9_drawn_113 : decode cX9_drawn 113 = .ok (.getfield 34, 3) := by decide +kernel
theorem dX9_drawn_116 : decode cX9_drawn 116 = .ok (.aload_n 0, 1) := by decide +kernel
theorem dX9_drawn_117 : decode cX9_drawn 117 = .ok (.getfield 41, 3) := by decide +kernel
theorem dX9_drawn_120 : decode cX9_drawn 120 = .ok (.getfield 163, 3) := by decide +kernel
theorem dX9_drawn_123 : decode cX9_drawn 123 = .ok (.lload 7, 2) := by decide +kernel
theorem dX9_drawn_125 : decode cX9_drawn 125 = .ok (.invokevirtual 164, 3) := by decide +kernel
theorem dX9_drawn_128 : decode cX9_drawn 128 = .ok (.ifCond .eq 6, 3) := by decide +kernel
theorem dX9_drawn_131 : decode cX9_drawn 131 = .ok (.iinc 9 1, 3) := by decide +kernel
theorem dX9_drawn_134 : decode cX9_drawn 134 = .ok (.iinc 10 1, 3) := by decide +kernel
theorem dX9_drawn_137 : decode cX9_drawn 137 = .ok (.goto (-38), 3) := by decide +kernel
theorem dX9_drawn_140 : decode cX9_drawn 140 = .ok (.iload 9, 2) := by decide +kernel
theorem dX9_drawn_142 : decode cX9_drawn 142 = .ok (.ireturn, 1) := by decide +kernel
theorem dX9_together_0 : decode cX9_together 0 = .ok (.aload_n 0, 1) := by decide +kernel
theorem dX9_together_1 : decode cX9_together 1 = .ok (.iload_n 1, 1) := by decide +kernel
theorem dX9_together_2 : decode cX9_together 2 = .ok (.invokestatic 77, 3) := by decide +kernel
theorem dX9_together_5 : decode cX9_together 5 = .ok (.ifCond .eq 14, 3) := by decide +kernel
theorem dX9_together_8 : decode cX9_together 8 = .ok (.iload_n 2, 1) := by decide +kernel
theorem dX9_together_9 : decode cX9_together 9 = .ok (.invokestatic 77, 3) := by decide +kernel
theorem dX9_together_12 : decode cX9_together 12 = .ok (.ifCond .eq 7, 3) := by decide +kernel
theorem dX9_together_15 : decode cX9_together 15 = .ok (.iconst 1, 1) := by decide +kernel
theorem dX9_together_16 : decode cX9_together 16 = .ok (.goto 4, 3) := by decide +kernel
theorem dX9_together_19 : decode cX9_together 19 = .ok (.iconst 0, 1) := by decide +kernel
theorem dX9_together_20 : decode cX9_together 20 = .ok (.iload_n 3, 1) := by decide +kernel
theorem dX9_together_21 : decode cX9_together 21 = .ok (.invokestatic 82, 3) := by decide +kernel
theorem dX9_together_24 : decode cX9_together 24 = .ok (.ifCond .eq 15, 3) := by decide +kernel
theorem dX9_together_27 : decode cX9_together 27 = .ok (.iload 4, 2) := by decide +kernel
theorem dX9_together_29 : decode cX9_together 29 = .ok (.invokestatic 127, 3) := by decide +kernel
theorem dX9_together_32 : decode cX9_together 32 = .ok (.ifCond .eq 7, 3) := by decide +kernel
theorem dX9_together_35 : decode cX9_together 35 = .ok (.iconst 1, 1) := by decide +kernel
theorem dX9_together_36 : decode cX9_together 36 = .ok (.goto 4, 3) := by decide +kernel
theorem dX9_together_39 : decode cX9_together 39 = .ok (.iconst 0, 1) := by decide +kernel
theorem dX9_together_40 : decode cX9_together 40 = .ok (.invokevirtual 112, 3) := by decide +kernel
theorem dX9_together_43 : decode cX9_together 43 = .ok (.istore 5, 2) := by decide +kernel
theorem dX9_together_45 : decode cX9_together 45 = .ok (.iload 5, 2) := by decide +kernel
theorem dX9_together_47 : decode cX9_together 47 = .ok (.ifCond .eq 11, 3) := by decide +kernel
theorem dX9_together_50 : decode cX9_together 50 = .ok (.ldc2_w 130, 3) := by decide +kernel
theorem dX9_together_53 : decode cX9_together 53 = .ok (.iload 5, 2) := by decide +kernel
theorem dX9_together_55 : decode cX9_together 55 = .ok (.i2l, 1) := by decide +kernel
theorem dX9_together_56 : decode cX9_together 56 = .ok (.ladd, 1) := by decide +kernel
theorem dX9_together_57 : decode cX9_together 57 = .ok (.lreturn, 1) := by decide +kernel
theorem dX9_together_58 : decode cX9_together 58 = .ok (.aload_n 0, 1) := by decide +kernel
theorem dX9_together_59 : decode cX9_together 59 = .ok (.iload_n 1, 1) := by decide +kernel
theorem dX9_together_60 : decode cX9_together 60 = .ok (.iload_n 2, 1) := by decide +kernel
theorem dX9_together_61 : decode cX9_together 61 = .ok (.invokevirtual 168, 3) := by decide +kernel
theorem dX9_together_64 : decode cX9_together 64 = .ok (.aload_n 0, 1) := by decide +kernel
theorem dX9_together_65 : decode cX9_together 65 = .ok (.iload_n 3, 1) := by decide +kernel
theorem dX9_together_66 : decode cX9_together 66 = .ok (.aload_n 0, 1) := by decide +kernel
theorem dX9_together_67 : decode cX9_together 67 = .ok (.getfield 55, 3) := by decide +kernel
theorem dX9_together_70 : decode cX9_together 70 = .ok (.invokevirtual 171, 3) := by decide +kernel
theorem dX9_together_73 : decode cX9_together 73 = .ok (.aload_n 0, 1) := by decide +kernel
theorem dX9_together_74 : decode cX9_together 74 = .ok (.getfield 55, 3) := by decide +kernel
theorem dX9_together_77 : decode cX9_together 77 = .ok (.iload 4, 2) := by decide +kernel
theorem dX9_together_79 : decode cX9_together 79 = .ok (.invokevirtual 136, 3) := by decide +kernel
theorem dX9_together_82 : decode cX9_together 82 = .ok (.lreturn, 1) := by decide +kernel
theorem dX9_go_0 : decode cX9_go 0 = .ok (.aload_n 0, 1) := by decide +kernel
theorem dX9_go_1 : decode cX9_go 1 = .ok (.iload_n 1, 1) := by decide +kernel
theorem dX9_go_2 : decode cX9_go 2 = .ok (.invokestatic 77, 3) := by decide +kernel
theorem dX9_go_5 : decode cX9_go 5 = .ok (.ifCond .eq 14, 3) := by decide +kernel
theorem dX9_go_8 : decode cX9_go 8 = .ok (.iload_n 2, 1) := by decide +kernel
theorem dX9_go_9 : decode cX9_go 9 = .ok (.invokestatic 77, 3) := by decide +kernel
theorem dX9_go_12 : decode cX9_go 12 = .ok (.ifCond .eq 7, 3) := by decide +kernel
theorem dX9_go_15 : decode cX9_go 15 = .ok (.iconst 1, 1) := by decide +kernel
theorem dX9_go_16 : decode cX9_go 16 = .ok (.goto 4, 3) := by decide +kernel
theorem dX9_go_19 : decode cX9_go 19 = .ok (.iconst 0, 1) := by decide +kernel
theorem dX9_go_20 : decode cX9_go 20 = .ok (.iconst 1, 1) := by decide +kernel
theorem dX9_go_21 : decode cX9_go 21 = .ok (.invokevirtual 112, 3) := by decide +kernel
theorem dX9_go_24 : decode cX9_go 24 = .ok (.istore_n 3, 1) := by decide +kernel
theorem dX9_go_25 : decode cX9_go 25 = .ok (.iload_n 3, 1) := by decide +kernel
theorem dX9_go_26 : decode cX9_go 26 = .ok (.ifCond .eq 5, 3) := by decide +kernel
theorem dX9_go_29 : decode cX9_go 29 = .ok (.iload_n 3, 1) := by decide +kernel
theorem dX9_go_30 : decode cX9_go 30 = .ok (.ireturn, 1) := by decide +kernel
theorem dX9_go_31 : decode cX9_go 31 = .ok (.aload_n 0, 1) := by decide +kernel
theorem dX9_go_32 : decode cX9_go 32 = .ok (.iload_n 1, 1) := by decide +kernel
theorem dX9_go_33 : decode cX9_go 33 = .ok (.iload_n 2, 1) := by decide +kernel
theorem dX9_go_34 : decode cX9_go 34 = .ok (.invokevirtual 168, 3) := by decide +kernel
theorem dX9_go_37 : decode cX9_go 37 = .ok (.aload_n 0, 1) := by decide +kernel
theorem dX9_go_38 : decode cX9_go 38 = .ok (.iconst 0, 1) := by decide +kernel
theorem dX9_go_39 : decode cX9_go 39 = .ok (.aload_n 0, 1) := by decide +kernel
theorem dX9_go_40 : decode cX9_go 40 = .ok (.getfield 59, 3) := by decide +kernel
theorem dX9_go_43 : decode cX9_go 43 = .ok (.invokevirtual 171, 3) := by decide +kernel
theorem dX9_go_46 : decode cX9_go 46 = .ok (.iconst 0, 1) := by decide +kernel
theorem dX9_go_47 : decode cX9_go 47 = .ok (.istore 4, 2) := by decide +kernel
theorem dX9_go_49 : decode cX9_go 49 = .ok (.iconst 0, 1) := by decide +kernel
theorem dX9_go_50 : decode cX9_go 50 = .ok (.istore 5, 2) := by decide +kernel
theorem dX9_go_52 : decode cX9_go 52 = .ok (.iload 5, 2) := by decide +kernel
theorem dX9_go_54 : decode cX9_go 54 = .ok (.bipush 24, 2) := by decide +kernel
theorem dX9_go_56 : decode cX9_go 56 = .ok (.if_icmp .ge 36, 3) := by decide +kernel
theorem dX9_go_59 : decode cX9_go 59 = .ok (.aload_n 0, 1) := by decide +kernel
theorem dX9_go_60 : decode cX9_go 60 = .ok (.iload 5, 2) := by decide +kernel
theorem dX9_go_62 : decode cX9_go 62 = .ok (.aload_n 0, 1) := by decide +kernel
theorem dX9_go_63 : decode cX9_go 63 = .ok (.getfield 55, 3) := by decide +kernel
theorem dX9_go_66 : decode cX9_go 66 = .ok (.invokevirtual 171, 3) := by decide +kernel
theorem dX9_go_69 : decode cX9_go 69 = .ok (.aload_n 0, 1) := by decide +kernel
theorem dX9_go_70 : decode cX9_go 70 = .ok (.getfield 55, 3) := by decide +kernel
theorem dX9_go_73 : decode cX9_go 73 = .ok (.aload_n 0, 1) := by decide +kernel
theorem dX9_go_74 : decode cX9_go 74 = .ok (.getfield 59, 3) := by decide +kernel
theorem dX9_go_77 : decode cX9_go 77 = .ok (.invokevirtual 175, 3) := by decide +kernel
theorem dX9_go_80 : decode cX9_go 80 = .ok (.ifCond .eq 6, 3) := by decide +kernel
theorem dX9_go_83 : decode cX9_go 83 = .ok (.iinc 4 1, 3) := by decide +kernel
theorem dX9_go_86 : decode cX9_go 86 = .ok (.iinc 5 1, 3) := by decide +kernel
theorem dX9_go_89 : decode cX9_go 89 = .ok (.goto (-37), 3) := by decide +kernel
theorem dX9_go_92 : decode cX9_go 92 = .ok (.iload 4, 2) := by decide +kernel
theorem dX9_go_94 : decode cX9_go 94 = .ok (.ireturn, 1) := by decide +kernel
theorem dX9_waves_0 : decode cX9_waves 0 = .ok (.iload_n 1, 1) := by decide +kernel
theorem dX9_waves_1 : decode cX9_waves 1 = .ok (.iconst 3, 1) := by decide +kernel
theorem dX9_waves_2 : decode cX9_waves 2 = .ok (.bipush 12, 2) := by decide +kernel
theorem dX9_waves_4 : decode cX9_waves 4 = .ok (.invokestatic 89, 3) := by decide +kernel
theorem dX9_waves_7 : decode cX9_waves 7 = .ok (.ifCond .eq 19, 3) := by decide +kernel
theorem dX9_waves_10 : decode cX9_waves 10 = .ok (.iload_n 2, 1) := by decide +kernel
theorem dX9_waves_11 : decode cX9_waves 11 = .ok (.iconst 1, 1) := by decide +kernel
theorem dX9_waves_12 : decode cX9_waves 12 = .ok (.iconst 5, 1) := by decide +kernel
theorem dX9_waves_13 : decode cX9_waves 13 = .ok (.invokestatic 89, 3) := by decide +kernel
theorem dX9_waves_16 : decode cX9_waves 16 = .ok (.ifCond .eq 10, 3) := by decide +kernel
theorem dX9_waves_19 : decode cX9_waves 19 = .ok (.iload_n 3, 1) := by decide +kernel
theorem dX9_waves_20 : decode cX9_waves 20 = .ok (.invokestatic 127, 3) := by decide +kernel
theorem dX9_waves_23 : decode cX9_waves 23 = .ok (.ifCond .ne 7, 3) := by decide +kernel
theorem dX9_waves_26 : decode cX9_waves 26 = .ok (.ldc2_w 179, 3) := by decide +kernel
theorem dX9_waves_29 : decode cX9_waves 29 = .ok (.lreturn, 1) := by decide +kernel
theorem dX9_waves_30 : decode cX9_waves 30 = .ok (.iconst 0, 1) := by decide +kernel
theorem dX9_waves_31 : decode cX9_waves 31 = .ok (.istore 4, 2) := by decide +kernel
theorem dX9_waves_33 : decode cX9_waves 33 = .ok (.iconst 0, 1) := by decide +kernel
theorem dX9_waves_34 : decode cX9_waves 34 = .ok (.istore 5, 2) := by decide +kernel
theorem dX9_waves_36 : decode cX9_waves 36 = .ok (.iload 5, 2) := by decide +kernel
theorem dX9_waves_38 : decode cX9_waves 38 = .ok (.iconst 1, 1) := by decide +kernel
theorem dX9_waves_39 : decode cX9_waves 39 = .ok (.iload_n 1, 1) := by decide +kernel
theorem dX9_waves_40 : decode cX9_waves 40 = .ok (.ishl, 1) := by decide +kernel
theorem dX9_waves_41 : decode cX9_waves 41 = .ok (.if_icmp .ge 21, 3) := by decide +kernel
theorem dX9_waves_44 : decode cX9_waves 44 = .ok (.iload 4, 2) := by decide +kernel
theorem dX9_waves_46 : decode cX9_waves 46 = .ok (.iload 5, 2) := by decide +kernel
theorem dX9_waves_48 : decode cX9_waves 48 = .ok (.iload_n 1, 1) := by decide +kernel
theorem dX9_waves_49 : decode cX9_waves 49 = .ok (.iload_n 2, 1) := by decide +kernel
theorem dX9_waves_50 : decode cX9_waves 50 = .ok (.invokestatic 181, 3) := by decide +kernel
theorem dX9_waves_53 : decode cX9_waves 53 = .ok (.iadd, 1) := by decide +kernel
theorem dX9_waves_54 : decode cX9_waves 54 = .ok (.istore 4, 2) := by decide +kernel
theorem dX9_waves_56 : decode cX9_waves 56 = .ok (.iinc 5 1, 3) := by decide +kernel
theorem dX9_waves_59 : decode cX9_waves 59 = .ok (.goto (-23), 3) := by decide +kernel
theorem dX9_waves_62 : decode cX9_waves 62 = .ok (.aload_n 0, 1) := by decide +kernel
theorem dX9_waves_63 : decode cX9_waves 63 = .ok (.getfield 55, 3) := by decide +kernel
theorem dX9_waves_66 : decode cX9_waves 66 = .ok (.iload 4, 2) := by decide +kernel
theorem dX9_waves_68 : decode cX9_waves 68 = .ok (.i2l, 1) := by decide +kernel
theorem dX9_waves_69 : decode cX9_waves 69 = .ok (.iconst 1, 1) := by decide +kernel
theorem dX9_waves_70 : decode cX9_waves 70 = .ok (.iload_n 1, 1) := by decide +kernel
theorem dX9_waves_71 : decode cX9_waves 71 = .ok (.ishl, 1) := by decide +kernel
theorem dX9_waves_72 : decode cX9_waves 72 = .ok (.i2l, 1) := by decide +kernel
theorem dX9_waves_73 : decode cX9_waves 73 = .ok (.invokevirtual 185, 3) := by decide +kernel
theorem dX9_waves_76 : decode cX9_waves 76 = .ok (.aload_n 0, 1) := by decide +kernel
theorem dX9_waves_77 : decode cX9_waves 77 = .ok (.getfield 55, 3) := by decide +kernel
theorem dX9_waves_80 : decode cX9_waves 80 = .ok (.iload_n 3, 1) := by decide +kernel
theorem dX9_waves_81 : decode cX9_waves 81 = .ok (.invokevirtual 136, 3) := by decide +kernel
theorem dX9_waves_84 : decode cX9_waves 84 = .ok (.lreturn, 1) := by decide +kernel
theorem dX9_found_0 : decode cX9_found 0 = .ok (.aload_n 0, 1) := by decide +kernel
theorem dX9_found_1 : decode cX9_found 1 = .ok (.iload_n 1, 1) := by decide +kernel
theorem dX9_found_2 : decode cX9_found 2 = .ok (.invokestatic 77, 3) := by decide +kernel
theorem dX9_found_5 : decode cX9_found 5 = .ok (.iload_n 2, 1) := by decide +kernel
theorem dX9_found_6 : decode cX9_found 6 = .ok (.invokestatic 189, 3) := by decide +kernel
theorem dX9_found_9 : decode cX9_found 9 = .ok (.ifCond .eq 16, 3) := by decide +kernel
theorem dX9_found_12 : decode cX9_found 12 = .ok (.iload_n 3, 1) := by decide +kernel
theorem dX9_found_13 : decode cX9_found 13 = .ok (.iconst 0, 1) := by decide +kernel
theorem dX9_found_14 : decode cX9_found 14 = .ok (.iconst 2, 1) := by decide +kernel
theorem dX9_found_15 : decode cX9_found 15 = .ok (.invokestatic 89, 3) := by decide +kernel
theorem dX9_found_18 : decode cX9_found 18 = .ok (.ifCond .eq 7, 3) := by decide +kernel
theorem dX9_found_21 : decode cX9_found 21 = .ok (.iconst 1, 1) := by decide +kernel
theorem dX9_found_22 : decode cX9_found 22 = .ok (.goto 4, 3) := by decide +kernel
theorem dX9_found_25 : decode cX9_found 25 = .ok (.iconst 0, 1) := by decide +kernel
theorem dX9_found_26 : decode cX9_found 26 = .ok (.invokevirtual 112, 3) := by decide +kernel
theorem dX9_found_29 : decode cX9_found 29 = .ok (.istore 4, 2) := by decide +kernel
theorem dX9_found_31 : decode cX9_found 31 = .ok (.iload 4, 2) := by decide +kernel
theorem dX9_found_33 : decode cX9_found 33 = .ok (.ifCond .eq 6, 3) := by decide +kernel
theorem dX9_found_36 : decode cX9_found 36 = .ok (.iload 4, 2) := by decide +kernel
theorem dX9_found_38 : decode cX9_found 38 = .ok (.ireturn, 1) := by decide +kernel
theorem dX9_found_39 : decode cX9_found 39 = .ok (.aload_n 0, 1) := by decide +kernel
theorem dX9_found_40 : decode cX9_found 40 = .ok (.iload_n 1, 1) := by decide +kernel
theorem dX9_found_41 : decode cX9_found 41 = .ok (.iload_n 2, 1) := by decide +kernel
theorem dX9_found_42 : decode cX9_found 42 = .ok (.invokevirtual 192, 3) := by decide +kernel
theorem dX9_found_45 : decode cX9_found 45 = .ok (.iload_n 3, 1) := by decide +kernel
theorem dX9_found_46 : decode cX9_found 46 = .ok (.ifCond .ne 11, 3) := by decide +kernel
theorem dX9_found_49 : decode cX9_found 49 = .ok (.aload_n 0, 1) := by decide +kernel
theorem dX9_found_50 : decode cX9_found 50 = .ok (.getfield 48, 3) := by decide +kernel
theorem dX9_found_53 : decode cX9_found 53 = .ok (.getfield 195, 3) := by decide +kernel
theorem dX9_found_56 : decode cX9_found 56 = .ok (.ireturn, 1) := by decide +kernel
theorem dX9_found_57 : decode cX9_found 57 = .ok (.iload_n 3, 1) := by decide +kernel
theorem dX9_found_58 : decode cX9_found 58 = .ok (.iconst 1, 1) := by decide +kernel
theorem dX9_found_59 : decode cX9_found 59 = .ok (.if_icmp .ne 13, 3) := by decide +kernel
theorem dX9_found_62 : decode cX9_found 62 = .ok (.aload_n 0, 1) := by decide +kernel
theorem dX9_found_63 : decode cX9_found 63 = .ok (.getfield 48, 3) := by decide +kernel
theorem dX9_found_66 : decode cX9_found 66 = .ok (.getfield 198, 3) := by decide +kernel
theorem dX9_found_69 : decode cX9_found 69 = .ok (.goto 10, 3) := by decide +kernel
theorem dX9_found_72 : decode cX9_found 72 = .ok (.aload_n 0, 1) := by decide +kernel
theorem dX9_found_73 : decode cX9_found 73 = .ok (.getfield 48, 3) := by decide +kernel
theorem dX9_found_76 : decode cX9_found 76 = .ok (.getfield 201, 3) := by decide +kernel
theorem dX9_found_79 : decode cX9_found 79 = .ok (.ireturn, 1) := by decide +kernel
theorem dX9_luck_0 : decode cX9_luck 0 = .ok (.aload_n 0, 1) := by decide +kernel
theorem dX9_luck_1 : decode cX9_luck 1 = .ok (.iload_n 1, 1) := by decide +kernel
theorem dX9_luck_2 : decode cX9_luck 2 = .ok (.invokestatic 77, 3) := by decide +kernel
theorem dX9_luck_5 : decode cX9_luck 5 = .ok (.iload_n 2, 1) := by decide +kernel
theorem dX9_luck_6 : decode cX9_luck 6 = .ok (.invokestatic 189, 3) := by decide +kernel
theorem dX9_luck_9 : decode cX9_luck 9 = .ok (.ifCond .eq 14, 3) := by decide +kernel
theorem dX9_luck_12 : decode cX9_luck 12 = .ok (.iload_n 3, 1) := by decide +kernel
theorem dX9_luck_13 : decode cX9_luck 13 = .ok (.invokestatic 127, 3) := by decide +kernel
theorem dX9_luck_16 : decode cX9_luck 16 = .ok (.ifCond .eq 7, 3) := by decide +kernel
theorem dX9_luck_19 : decode cX9_luck 19 = .ok (.iconst 1, 1) := by decide +kernel
theorem dX9_luck_20 : decode cX9_luck 20 = .ok (.goto 4, 3) := by decide +kernel
theorem dX9_luck_23 : decode cX9_luck 23 = .ok (.iconst 0, 1) := by decide +kernel
theorem dX9_luck_24 : decode cX9_luck 24 = .ok (.invokevirtual 112, 3) := by decide +kernel
theorem dX9_luck_27 : decode cX9_luck 27 = .ok (.istore 4, 2) := by decide +kernel
theorem dX9_luck_29 : decode cX9_luck 29 = .ok (.iload 4, 2) := by decide +kernel
theorem dX9_luck_31 : decode cX9_luck 31 = .ok (.ifCond .eq 11, 3) := by decide +kernel
theorem dX9_luck_34 : decode cX9_luck 34 = .ok (.ldc2_w 130, 3) := by decide +kernel
theorem dX9_luck_37 : decode cX9_luck 37 = .ok (.iload 4, 2) := by decide +kernel
theorem dX9_luck_39 : decode cX9_luck 39 = .ok (.i2l, 1) := by decide +kernel
theorem dX9_luck_40 : decode cX9_luck 40 = .ok (.ladd, 1) := by decide +kernel
theorem dX9_luck_41 : decode cX9_luck 41 = .ok (.lreturn, 1) := by decide +kernel
theorem dX9_luck_42 : decode cX9_luck 42 = .ok (.aload_n 0, 1) := by decide +kernel
theorem dX9_luck_43 : decode cX9_luck 43 = .ok (.iload_n 1, 1) := by decide +kernel
theorem dX9_luck_44 : decode cX9_luck 44 = .ok (.iload_n 2, 1) := by decide +kernel
theorem dX9_luck_45 : decode cX9_luck 45 = .ok (.invokevirtual 192, 3) := by decide +kernel
theorem dX9_luck_48 : decode cX9_luck 48 = .ok (.aload_n 0, 1) := by decide +kernel
theorem dX9_luck_49 : decode cX9_luck 49 = .ok (.getfield 48, 3) := by decide +kernel
theorem dX9_luck_52 : decode cX9_luck 52 = .ok (.aload_n 0, 1) := by decide +kernel
theorem dX9_luck_53 : decode cX9_luck 53 = .ok (.getfield 55, 3) := by decide +kernel
theorem dX9_luck_56 : decode cX9_luck 56 = .ok (.invokevirtual 204, 3) := by decide +kernel
theorem dX9_luck_59 : decode cX9_luck 59 = .ok (.aload_n 0, 1) := by decide +kernel
theorem dX9_luck_60 : decode cX9_luck 60 = .ok (.getfield 55, 3) := by decide +kernel
theorem dX9_luck_63 : decode cX9_luck 63 = .ok (.iload_n 3, 1) := by decide +kernel
theorem dX9_luck_64 : decode cX9_luck 64 = .ok (.invokevirtual 136, 3) := by decide +kernel
theorem dX9_luck_67 : decode cX9_luck 67 = .ok (.lreturn, 1) := by decide +kernel
theorem dX9_trial_0 : decode cX9_trial 0 = .ok (.aload_n 0, 1) := by decide +kernel
theorem dX9_trial_1 : decode cX9_trial 1 = .ok (.iload_n 1, 1) := by decide +kernel
theorem dX9_trial_2 : decode cX9_trial 2 = .ok (.invokestatic 77, 3) := by decide +kernel
theorem dX9_trial_5 : decode cX9_trial 5 = .ok (.iload_n 2, 1) := by decide +kernel
theorem dX9_trial_6 : decode cX9_trial 6 = .ok (.invokestatic 124, 3) := by decide +kernel
theorem dX9_trial_9 : decode cX9_trial 9 = .ok (.invokevirtual 112, 3) := by decide +kernel
theorem dX9_trial_12 : decode cX9_trial 12 = .ok (.istore_n 3, 1) := by decide +kernel
theorem dX9_trial_13 : decode cX9_trial 13 = .ok (.iload_n 3, 1) := by decide +kernel
theorem dX9_trial_14 : decode cX9_trial 14 = .ok (.ifCond .eq 5, 3) := by decide +kernel
theorem dX9_trial_17 : decode cX9_trial 17 = .ok (.iload_n 3, 1) := by decide +kernel
theorem dX9_trial_18 : decode cX9_trial 18 = .ok (.ireturn, 1) := by decide +kernel
theorem dX9_trial_19 : decode cX9_trial 19 = .ok (.aload_n 0, 1) := by decide +kernel
theorem dX9_trial_20 : decode cX9_trial 20 = .ok (.getfield 65, 3) := by decide +kernel
theorem dX9_trial_23 : decode cX9_trial 23 = .ok (.invokevirtual 208, 3) := by decide +kernel
theorem dX9_trial_26 : decode cX9_trial 26 = .ok (.ifCond .eq 6, 3) := by decide +kernel
theorem dX9_trial_29 : decode cX9_trial 29 = .ok (.bipush (-4), 2) := by decide +kernel
theorem dX9_trial_31 : decode cX9_trial 31 = .ok (.ireturn, 1) := by decide +kernel
theorem dX9_trial_32 : decode cX9_trial 32 = .ok (.aload_n 0, 1) := by decide +kernel
theorem dX9_trial_33 : decode cX9_trial 33 = .ok (.iload_n 1, 1) := by decide +kernel
theorem dX9_trial_34 : decode cX9_trial 34 = .ok (.iload_n 2, 1) := by decide +kernel
theorem dX9_trial_35 : decode cX9_trial 35 = .ok (.invokevirtual 132, 3) := by decide +kernel
theorem dX9_trial_38 : decode cX9_trial 38 = .ok (.aload_n 0, 1) := by decide +kernel
theorem dX9_trial_39 : decode cX9_trial 39 = .ok (.getfield 65, 3) := by decide +kernel
theorem dX9_trial_42 : decode cX9_trial 42 = .ok (.iload_n 1, 1) := by decide +kernel
theorem dX9_trial_43 : decode cX9_trial 43 = .ok (.iload_n 2, 1) := by decide +kernel
theorem dX9_trial_44 : decode cX9_trial 44 = .ok (.aload_n 0, 1) := by decide +kernel
theorem dX9_trial_45 : decode cX9_trial 45 = .ok (.getfield 55, 3) := by decide +kernel
theorem dX9_trial_48 : decode cX9_trial 48 = .ok (.invokevirtual 209, 3) := by decide +kernel
theorem dX9_trial_51 : decode cX9_trial 51 = .ok (.invokevirtual 212, 3) := by decide +kernel
theorem dX9_trial_54 : decode cX9_trial 54 = .ok (.aload_n 0, 1) := by decide +kernel
theorem dX9_trial_55 : decode cX9_trial 55 = .ok (.getfield 65, 3) := by decide +kernel
theorem dX9_trial_58 : decode cX9_trial 58 = .ok (.getfield 215, 3) := by decide +kernel
theorem dX9_trial_61 : decode cX9_trial 61 = .ok (.iconst 1, 1) := by decide +kernel
theorem dX9_trial_62 : decode cX9_trial 62 = .ok (.isub, 1) := by decide +kernel
theorem dX9_trial_63 : decode cX9_trial 63 = .ok (.ireturn, 1) := by decide +kernel
theorem dX9_of_0 : decode cX9_of 0 = .ok (.aload_n 0, 1) := by decide +kernel
theorem dX9_of_1 : decode cX9_of 1 = .ok (.getfield 65, 3) := by decide +kernel
theorem dX9_of_4 : decode cX9_of 4 = .ok (.iload_n 1, 1) := by decide +kernel
theorem dX9_of_5 : decode cX9_of 5 = .ok (.invokevirtual 216, 3) := by decide +kernel
theorem dX9_of_8 : decode cX9_of 8 = .ok (.ifCond .ne 5, 3) := by decide +kernel
theorem dX9_of_11 : decode cX9_of 11 = .ok (.iconst (-1), 1) := by decide +kernel
theorem dX9_of_12 : decode cX9_of 12 = .ok (.ireturn, 1) := by decide +kernel
theorem dX9_of_13 : decode cX9_of 13 = .ok (.iload_n 2, 1) := by decide +kernel
theorem dX9_of_14 : decode cX9_of 14 = .ok (.tableswitch 77 0 3 #[30, 40, 50, 60], 30) := by decide +kernel
theorem dX9_of_44 : decode cX9_of 44 = .ok (.aload_n 0, 1) := by decide +kernel
theorem dX9_of_45 : decode cX9_of 45 = .ok (.getfield 65, 3) := by decide +kernel
theorem dX9_of_48 : decode cX9_of 48 = .ok (.getfield 219, 3) := by decide +kernel
theorem dX9_of_51 : decode cX9_of 51 = .ok (.iload_n 1, 1) := by decide +kernel
theorem dX9_of_52 : decode cX9_of 52 = .ok (.iaload, 1) := by decide +kernel
theorem dX9_of_53 : decode cX9_of 53 = .ok (.ireturn, 1) := by decide +kernel
theorem dX9_of_54 : decode cX9_of 54 = .ok (.aload_n 0, 1) := by decide +kernel
theorem dX9_of_55 : decode cX9_of 55 = .ok (.getfield 65, 3) := by decide +kernel
theorem dX9_of_58 : decode cX9_of 58 = .ok (.getfield 222, 3) := by decide +kernel
theorem dX9_of_61 : decode cX9_of 61 = .ok (.iload_n 1, 1) := by decide +kernel
theorem dX9_of_62 : decode cX9_of 62 = .ok (.iaload, 1) := by decide +kernel
theorem dX9_of_63 : decode cX9_of 63 = .ok (.ireturn, 1) := by decide +kernel
theorem dX9_of_64 : decode cX9_of 64 = .ok (.aload_n 0, 1) := by decide +kernel
theorem dX9_of_65 : decode cX9_of 65 = .ok (.getfield 65, 3) := by decide +kernel
theorem dX9_of_68 : decode cX9_of 68 = .ok (.getfield 225, 3) := by decide +kernel
theorem dX9_of_71 : decode cX9_of 71 = .ok (.iload_n 1, 1) := by decide +kernel
theorem dX9_of_72 : decode cX9_of 72 = .ok (.iaload, 1) := by decide +kernel
theorem dX9_of_73 : decode cX9_of 73 = .ok (.ireturn, 1) := by decide +kernel
theorem dX9_of_74 : decode cX9_of 74 = .ok (.aload_n 0, 1) := by decide +kernel
theorem dX9_of_75 : decode cX9_of 75 = .ok (.getfield 65, 3) := by decide +kernel
theorem dX9_of_78 : decode cX9_of 78 = .ok (.iload_n 1, 1) := by decide +kernel
theorem dX9_of_79 : decode cX9_of 79 = .ok (.invokevirtual 228, 3) := by decide +kernel
theorem dX9_of_82 : decode cX9_of 82 = .ok (.ifCond .eq 7, 3) := by decide +kernel
theorem dX9_of_85 : decode cX9_of 85 = .ok (.iconst 1, 1) := by decide +kernel
theorem dX9_of_86 : decode cX9_of 86 = .ok (.goto 4, 3) := by decide +kernel
theorem dX9_of_89 : decode cX9_of 89 = .ok (.iconst 0, 1) := by decide +kernel
theorem dX9_of_90 : decode cX9_of 90 = .ok (.ireturn, 1) := by decide +kernel
theorem dX9_of_91 : decode cX9_of 91 = .ok (.bipush (-2), 2) := by decide +kernel
theorem dX9_of_93 : decode cX9_of 93 = .ok (.ireturn, 1) := by decide +kernel
theorem dX9_print_0 : decode cX9_print 0 = .ok (.aload_n 0, 1) := by decide +kernel
theorem dX9_print_1 : decode cX9_print 1 = .ok (.getfield 65, 3) := by decide +kernel
theorem dX9_print_4 : decode cX9_print 4 = .ok (.iload_n 1, 1) := by decide +kernel
theorem dX9_print_5 : decode cX9_print 5 = .ok (.invokevirtual 216, 3) := by decide +kernel
theorem dX9_print_8 : decode cX9_print 8 = .ok (.ifCond .ne 5, 3) := by decide +kernel
theorem dX9_print_11 : decode cX9_print 11 = .ok (.iconst (-1), 1) := by decide +kernel
theorem dX9_print_12 : decode cX9_print 12 = .ok (.ireturn, 1) := by decide +kernel
theorem dX9_print_13 : decode cX9_print 13 = .ok (.aload_n 0, 1) := by decide +kernel
theorem dX9_print_14 : decode cX9_print 14 = .ok (.getfield 65, 3) := by decide +kernel
theorem dX9_print_17 : decode cX9_print 17 = .ok (.iload_n 1, 1) := by decide +kernel
theorem dX9_print_18 : decode cX9_print 18 = .ok (.invokevirtual 228, 3) := by decide +kernel
theorem dX9_print_21 : decode cX9_print 21 = .ok (.ifCond .eq 7, 3) := by decide +kernel
theorem dX9_print_24 : decode cX9_print 24 = .ok (.iconst 1, 1) := by decide +kernel
theorem dX9_print_25 : decode cX9_print 25 = .ok (.goto 4, 3) := by decide +kernel
theorem dX9_print_28 : decode cX9_print 28 = .ok (.iconst 0, 1) := by decide +kernel
theorem dX9_print_29 : decode cX9_print 29 = .ok (.istore_n 3, 1) := by decide +kernel
theorem dX9_print_30 : decode cX9_print 30 = .ok (.aload_n 0, 1) := by decide +kernel
theorem dX9_print_31 : decode cX9_print 31 = .ok (.getfield 65, 3) := by decide +kernel
theorem dX9_print_34 : decode cX9_print 34 = .ok (.iload_n 1, 1) := by decide +kernel
theorem dX9_print_35 : decode cX9_print 35 = .ok (.iload_n 2, 1) := by decide +kernel
theorem dX9_print_36 : decode cX9_print 36 = .ok (.invokevirtual 231, 3) := by decide +kernel
theorem dX9_print_39 : decode cX9_print 39 = .ok (.iload_n 3, 1) := by decide +kernel
theorem dX9_print_40 : decode cX9_print 40 = .ok (.ireturn, 1) := by decide +kernel
theorem dX9_lean_0 : decode cX9_lean 0 = .ok (.iload_n 1, 1) := by decide +kernel
theorem dX9_lean_1 : decode cX9_lean 1 = .ok (.invokestatic 127, 3) := by decide +kernel
theorem dX9_lean_4 : decode cX9_lean 4 = .ok (.ifCond .ne 7, 3) := by decide +kernel
theorem dX9_lean_7 : decode cX9_lean 7 = .ok (.ldc2_w 179, 3) := by decide +kernel
theorem dX9_lean_10 : decode cX9_lean 10 = .ok (.lreturn, 1) := by decide +kernel
theorem dX9_lean_11 : decode cX9_lean 11 = .ok (.aload_n 0, 1) := by decide +kernel
theorem dX9_lean_12 : decode cX9_lean 12 = .ok (.getfield 65, 3) := by decide +kernel
theorem dX9_lean_15 : decode cX9_lean 15 = .ok (.getfield 235, 3) := by decide +kernel
theorem dX9_lean_18 : decode cX9_lean 18 = .ok (.ifCond .ne 7, 3) := by decide +kernel
theorem dX9_lean_21 : decode cX9_lean 21 = .ok (.ldc2_w 238, 3) := by decide +kernel
theorem dX9_lean_24 : decode cX9_lean 24 = .ok (.lreturn, 1) := by decide +kernel
theorem dX9_lean_25 : decode cX9_lean 25 = .ok (.aload_n 0, 1) := by decide +kernel
theorem dX9_lean_26 : decode cX9_lean 26 = .ok (.getfield 65, 3) := by decide +kernel
theorem dX9_lean_29 : decode cX9_lean 29 = .ok (.aload_n 0, 1) := by decide +kernel
theorem dX9_lean_30 : decode cX9_lean 30 = .ok (.getfield 55, 3) := by decide +kernel
theorem dX9_lean_33 : decode cX9_lean 33 = .ok (.invokevirtual 240, 3) := by decide +kernel
theorem dX9_lean_36 : decode cX9_lean 36 = .ok (.aload_n 0, 1) := by decide +kernel
theorem dX9_lean_37 : decode cX9_lean 37 = .ok (.getfield 55, 3) := by decide +kernel
theorem dX9_lean_40 : decode cX9_lean 40 = .ok (.iload_n 1, 1) := by decide +kernel
theorem dX9_lean_41 : decode cX9_lean 41 = .ok (.invokevirtual 136, 3) := by decide +kernel
theorem dX9_lean_44 : decode cX9_lean 44 = .ok (.lreturn, 1) := by decide +kernel
theorem dX9_reads_0 : decode cX9_reads 0 = .ok (.iload_n 1, 1) := by decide +kernel
theorem dX9_reads_1 : decode cX9_reads 1 = .ok (.iconst 0, 1) := by decide +kernel
theorem dX9_reads_2 : decode cX9_reads 2 = .ok (.bipush 7, 2) := by decide +kernel
theorem dX9_reads_4 : decode cX9_reads 4 = .ok (.invokestatic 89, 3) := by decide +kernel
theorem dX9_reads_7 : decode cX9_reads 7 = .ok (.ifCond .ne 5, 3) := by decide +kernel
theorem dX9_reads_10 : decode cX9_reads 10 = .ok (.iconst (-1), 1) := by decide +kernel
theorem dX9_reads_11 : decode cX9_reads 11 = .ok (.ireturn, 1) := by decide +kernel
theorem dX9_reads_12 : decode cX9_reads 12 = .ok (.iload_n 2, 1) := by decide +kernel
theorem dX9_reads_13 : decode cX9_reads 13 = .ok (.iconst 0, 1) := by decide +kernel
theorem dX9_reads_14 : decode cX9_reads 14 = .ok (.ldc 243, 2) := by decide +kernel
theorem dX9_reads_16 : decode cX9_reads 16 = .ok (.invokestatic 89, 3) := by decide +kernel
theorem dX9_reads_19 : decode cX9_reads 19 = .ok (.ifCond .ne 6, 3) := by decide +kernel
theorem dX9_reads_22 : decode cX9_reads 22 = .ok (.bipush (-2), 2) := by decide +kernel
theorem dX9_reads_24 : decode cX9_reads 24 = .ok (.ireturn, 1) := by decide +kernel
theorem dX9_reads_25 : decode cX9_reads 25 = .ok (.aload_n 0, 1) := by decide +kernel
theorem dX9_reads_26 : decode cX9_reads 26 = .ok (.getfield 72, 3) := by decide +kernel
theorem dX9_reads_29 : decode cX9_reads 29 = .ok (.getfield 244, 3) := by decide +kernel
theorem dX9_reads_32 : decode cX9_reads 32 = .ok (.iload_n 1, 1) := by decide +kernel
theorem dX9_reads_33 : decode cX9_reads 33 = .ok (.iaload, 1) := by decide +kernel
theorem dX9_reads_34 : decode cX9_reads 34 = .ok (.istore_n 3, 1) := by decide +kernel
theorem dX9_reads_35 : decode cX9_reads 35 = .ok (.aload_n 0, 1) := by decide +kernel
theorem dX9_reads_36 : decode cX9_reads 36 = .ok (.getfield 72, 3) := by decide +kernel
theorem dX9_reads_39 : decode cX9_reads 39 = .ok (.getfield 244, 3) := by decide +kernel
theorem dX9_reads_42 : decode cX9_reads 42 = .ok (.iload_n 1, 1) := by decide +kernel
theorem dX9_reads_43 : decode cX9_reads 43 = .ok (.iload_n 2, 1) := by decide +kernel
theorem dX9_reads_44 : decode cX9_reads 44 = .ok (.iastore, 1) := by decide +kernel
theorem dX9_reads_45 : decode cX9_reads 45 = .ok (.iload_n 3, 1) := by decide +kernel
theorem dX9_reads_46 : decode cX9_reads 46 = .ok (.ireturn, 1) := by decide +kernel
theorem dX9_bar_0 : decode cX9_bar 0 = .ok (.iload_n 1, 1) := by decide +kernel
theorem dX9_bar_1 : decode cX9_bar 1 = .ok (.iconst 0, 1) := by decide +kernel
theorem dX9_bar_2 : decode cX9_bar 2 = .ok (.bipush 100, 2) := by decide +kernel
theorem dX9_bar_4 : decode cX9_bar 4 = .ok (.invokestatic 89, 3) := by decide +kernel
theorem dX9_bar_7 : decode cX9_bar 7 = .ok (.ifCond .ne 6, 3) := by decide +kernel
theorem dX9_bar_10 : decode cX9_bar 10 = .ok (.bipush (-2), 2) := by decide +kernel
theorem dX9_bar_12 : decode cX9_bar 12 = .ok (.ireturn, 1) := by decide +kernel
theorem dX9_bar_13 : decode cX9_bar 13 = .ok (.aload_n 0, 1) := by decide +kernel
theorem dX9_bar_14 : decode cX9_bar 14 = .ok (.getfield 72, 3) := by decide +kernel
theorem dX9_bar_17 : decode cX9_bar 17 = .ok (.getfield 247, 3) := by decide +kernel
theorem dX9_bar_20 : decode cX9_bar 20 = .ok (.istore_n 2, 1) := by decide +kernel
theorem dX9_bar_21 : decode cX9_bar 21 = .ok (.aload_n 0, 1) := by decide +kernel
theorem dX9_bar_22 : decode cX9_bar 22 = .ok (.getfield 72, 3) := by decide +kernel
theorem dX9_bar_25 : decode cX9_bar 25 = .ok (.iload_n 1, 1) := by decide +kernel
theorem dX9_bar_26 : decode cX9_bar 26 = .ok (.putfield 247, 3) := by decide +kernel
theorem dX9_bar_29 : decode cX9_bar 29 = .ok (.iload_n 2, 1) := by decide +kernel
theorem dX9_bar_30 : decode cX9_bar 30 = .ok (.ireturn, 1) := by decide +kernel
theorem dX9_club_0 : decode cX9_club 0 = .ok (.aload_n 0, 1) := by decide +kernel
theorem dX9_club_1 : decode cX9_club 1 = .ok (.getfield 72, 3) := by decide +kernel
theorem dX9_club_4 : decode cX9_club 4 = .ok (.aload_n 0, 1) := by decide +kernel
theorem dX9_club_5 : decode cX9_club 5 = .ok (.getfield 65, 3) := by decide +kernel
theorem dX9_club_8 : decode cX9_club 8 = .ok (.getfield 235, 3) := by decide +kernel
theorem dX9_club_11 : decode cX9_club 11 = .ok (.aload_n 0, 1) := by decide +kernel
theorem dX9_club_12 : decode cX9_club 12 = .ok (.getfield 65, 3) := by decide +kernel
theorem dX9_club_15 : decode cX9_club 15 = .ok (.aload_n 0, 1) := by decide +kernel
theorem dX9_club_16 : decode cX9_club 16 = .ok (.getfield 72, 3) := by decide +kernel
theorem dX9_club_19 : decode cX9_club 19 = .ok (.getfield 247, 3) := by decide +kernel
theorem dX9_club_22 : decode cX9_club 22 = .ok (.invokevirtual 250, 3) := by decide +kernel
theorem dX9_club_25 : decode cX9_club 25 = .ok (.invokevirtual 254, 3) := by decide +kernel
theorem dX9_club_28 : decode cX9_club 28 = .ok (.ireturn, 1) := by decide +kernel
theorem dX9_least_0 : decode cX9_least 0 = .ok (.iload_n 1, 1) := by decide +kernel
theorem dX9_least_1 : decode cX9_least 1 = .ok (.iconst 0, 1) := by decide +kernel
theorem dX9_least_2 : decode cX9_least 2 = .ok (.sipush 255, 3) := by decide +kernel
theorem dX9_least_5 : decode cX9_least 5 = .ok (.invokestatic 89, 3) := by decide +kernel
theorem dX9_least_8 : decode cX9_least 8 = .ok (.ifCond .eq 12, 3) := by decide +kernel
theorem dX9_least_11 : decode cX9_least 11 = .ok (.iload_n 2, 1) := by decide +kernel
theorem dX9_least_12 : decode cX9_least 12 = .ok (.iconst 0, 1) := by decide +kernel
theorem dX9_least_13 : decode cX9_least 13 = .ok (.iconst 1, 1) := by decide +kernel
theorem dX9_least_14 : decode cX9_least 14 = .ok (.invokestatic 89, 3) := by decide +kernel
theorem dX9_least_17 : decode cX9_least 17 = .ok (.ifCond .ne 6, 3) := by decide +kernel
theorem dX9_least_20 : decode cX9_least 20 = .ok (.bipush (-2), 2) := by decide +kernel
theorem dX9_least_22 : decode cX9_least 22 = .ok (.ireturn, 1) := by decide +kernel
theorem dX9_least_23 : decode cX9_least 23 = .ok (.aload_n 0, 1) := by decide +kernel
theorem dX9_least_24 : decode cX9_least 24 = .ok (.getfield 72, 3) := by decide +kernel
theorem dX9_least_27 : decode cX9_least 27 = .ok (.iload_n 1, 1) := by decide +kernel
theorem dX9_least_28 : decode cX9_least 28 = .ok (.aload_n 0, 1) := by decide +kernel
theorem dX9_least_29 : decode cX9_least 29 = .ok (.getfield 65, 3) := by decide +kernel
theorem dX9_least_32 : decode cX9_least 32 = .ok (.invokevirtual 258, 3) := by decide +kernel
theorem dX9_least_35 : decode cX9_least 35 = .ok (.istore_n 3, 1) := by decide +kernel
theorem dX9_least_36 : decode cX9_least 36 = .ok (.iload_n 3, 1) := by decide +kernel
theorem dX9_least_37 : decode cX9_least 37 = .ok (.bipush (-6), 2) := by decide +kernel
theorem dX9_least_39 : decode cX9_least 39 = .ok (.if_icmp .ne 6, 3) := by decide +kernel
theorem dX9_least_42 : decode cX9_least 42 = .ok (.bipush (-5), 2) := by decide +kernel
theorem dX9_least_44 : decode cX9_least 44 = .ok (.ireturn, 1) := by decide +kernel
theorem dX9_least_45 : decode cX9_least 45 = .ok (.iload_n 2, 1) := by decide +kernel
theorem dX9_least_46 : decode cX9_least 46 = .ok (.ifCond .ne 7, 3) := by decide +kernel
theorem dX9_least_49 : decode cX9_least 49 = .ok (.iload_n 3, 1) := by decide +kernel
theorem dX9_least_50 : decode cX9_least 50 = .ok (.goto 7, 3) := by decide +kernel
theorem dX9_least_53 : decode cX9_least 53 = .ok (.iload_n 3, 1) := by decide +kernel
theorem dX9_least_54 : decode cX9_least 54 = .ok (.invokestatic 262, 3) := by decide +kernel
theorem dX9_least_57 : decode cX9_least 57 = .ok (.ireturn, 1) := by decide +kernel
theorem dX9_truth_0 : decode cX9_truth 0 = .ok (.iload_n 1, 1) := by decide +kernel
theorem dX9_truth_1 : decode cX9_truth 1 = .ok (.iconst 0, 1) := by decide +kernel
theorem dX9_truth_2 : decode cX9_truth 2 = .ok (.ldc 243, 2) := by decide +kernel
theorem dX9_truth_4 : decode cX9_truth 4 = .ok (.invokestatic 89, 3) := by decide +kernel
theorem dX9_truth_7 : decode cX9_truth 7 = .ok (.ifCond .ne 6, 3) := by decide +kernel
theorem dX9_truth_10 : decode cX9_truth 10 = .ok (.bipush (-2), 2) := by decide +kernel
theorem dX9_truth_12 : decode cX9_truth 12 = .ok (.ireturn, 1) := by decide +kernel
theorem dX9_truth_13 : decode cX9_truth 13 = .ok (.aload_n 0, 1) := by decide +kernel
theorem dX9_truth_14 : decode cX9_truth 14 = .ok (.getfield 65, 3) := by decide +kernel
theorem dX9_truth_17 : decode cX9_truth 17 = .ok (.getfield 267, 3) := by decide +kernel
theorem dX9_truth_20 : decode cX9_truth 20 = .ok (.istore_n 2, 1) := by decide +kernel
theorem dX9_truth_21 : decode cX9_truth 21 = .ok (.aload_n 0, 1) := by decide +kernel
theorem dX9_truth_22 : decode cX9_truth 22 = .ok (.getfield 65, 3) := by decide +kernel
theorem dX9_truth_25 : decode cX9_truth 25 = .ok (.iload_n 1, 1) := by decide +kernel
theorem dX9_truth_26 : decode cX9_truth 26 = .ok (.putfield 267, 3) := by decide +kernel
theorem dX9_truth_29 : decode cX9_truth 29 = .ok (.iload_n 2, 1) := by decide +kernel
theorem dX9_truth_30 : decode cX9_truth 30 = .ok (.ireturn, 1) := by decide +kernel
theorem dX9_good_0 : decode cX9_good 0 = .ok (.iload_n 1, 1) := by decide +kernel
theorem dX9_good_1 : decode cX9_good 1 = .ok (.iconst 0, 1) := by decide +kernel
theorem dX9_good_2 : decode cX9_good 2 = .ok (.bipush 101, 2) := by decide +kernel
theorem dX9_good_4 : decode cX9_good 4 = .ok (.invokestatic 89, 3) := by decide +kernel
theorem dX9_good_7 : decode cX9_good 7 = .ok (.ifCond .ne 6, 3) := by decide +kernel
theorem dX9_good_10 : decode cX9_good 10 = .ok (.ldc 88, 2) := by decide +kernel
theorem dX9_good_12 : decode cX9_good 12 = .ok (.ireturn, 1) := by decide +kernel
theorem dX9_good_13 : decode cX9_good 13 = .ok (.aload_n 0, 1) := by decide +kernel
theorem dX9_good_14 : decode cX9_good 14 = .ok (.getfield 65, 3) := by decide +kernel
theorem dX9_good_17 : decode cX9_good 17 = .ok (.iload_n 1, 1) := by decide +kernel
theorem dX9_good_18 : decode cX9_good 18 = .ok (.invokevirtual 270, 3) := by decide +kernel
theorem dX9_good_21 : decode cX9_good 21 = .ok (.ireturn, 1) := by decide +kernel
theorem dX9_best_0 : decode cX9_best 0 = .ok (.iload_n 1, 1) := by decide +kernel
theorem dX9_best_1 : decode cX9_best 1 = .ok (.iconst 0, 1) := by decide +kernel
theorem dX9_best_2 : decode cX9_best 2 = .ok (.iconst 1, 1) := by decide +kernel
theorem dX9_best_3 : decode cX9_best 3 = .ok (.invokestatic 89, 3) := by decide +kernel
theorem dX9_best_6 : decode cX9_best 6 = .ok (.ifCond .ne 6, 3) := by decide +kernel
theorem dX9_best_9 : decode cX9_best 9 = .ok (.ldc 88, 2) := by decide +kernel
theorem dX9_best_11 : decode cX9_best 11 = .ok (.ireturn, 1) := by decide +kernel
theorem dX9_best_12 : decode cX9_best 12 = .ok (.aload_n 0, 1) := by decide +kernel
theorem dX9_best_13 : decode cX9_best 13 = .ok (.getfield 65, 3) := by decide +kernel
theorem dX9_best_16 : decode cX9_best 16 = .ok (.invokevirtual 273, 3) := by decide +kernel
theorem dX9_best_19 : decode cX9_best 19 = .ok (.istore_n 2, 1) := by decide +kernel
theorem dX9_best_20 : decode cX9_best 20 = .ok (.iload_n 1, 1) := by decide +kernel
theorem dX9_best_21 : decode cX9_best 21 = .ok (.ifCond .ne 7, 3) := by decide +kernel
theorem dX9_best_24 : decode cX9_best 24 = .ok (.iload_n 2, 1) := by decide +kernel
theorem dX9_best_25 : decode cX9_best 25 = .ok (.goto 11, 3) := by decide +kernel
theorem dX9_best_28 : decode cX9_best 28 = .ok (.aload_n 0, 1) := by decide +kernel
theorem dX9_best_29 : decode cX9_best 29 = .ok (.getfield 65, 3) := by decide +kernel
theorem dX9_best_32 : decode cX9_best 32 = .ok (.iload_n 2, 1) := by decide +kernel
theorem dX9_best_33 : decode cX9_best 33 = .ok (.invokevirtual 270, 3) := by decide +kernel
theorem dX9_best_36 : decode cX9_best 36 = .ok (.ireturn, 1) := by decide +kernel
theorem dX9_told_0 : decode cX9_told 0 = .ok (.iload_n 1, 1) := by decide +kernel
theorem dX9_told_1 : decode cX9_told 1 = .ok (.tableswitch 83 0 4 #[35, 43, 51, 59, 67], 35) := by decide +kernel
theorem dX9_told_36 : decode cX9_told 36 = .ok (.aload_n 0, 1) := by decide +kernel
theorem dX9_told_37 : decode cX9_told 37 = .ok (.getfield 17, 3) := by decide +kernel
theorem dX9_told_40 : decode cX9_told 40 = .ok (.getfield 101, 3) := by decide +kernel
theorem dX9_told_43 : decode cX9_told 43 = .ok (.ireturn, 1) := by decide +kernel
theorem dX9_told_44 : decode cX9_told 44 = .ok (.aload_n 0, 1) := by decide +kernel
theorem dX9_told_45 : decode cX9_told 45 = .ok (.getfield 65, 3) := by decide +kernel
theorem dX9_told_48 : decode cX9_told 48 = .ok (.getfield 215, 3) := by decide +kernel
theorem dX9_told_51 : decode cX9_told 51 = .ok (.ireturn, 1) := by decide +kernel
theorem dX9_told_52 : decode cX9_told 52 = .ok (.aload_n 0, 1) := by decide +kernel
theorem dX9_told_53 : decode cX9_told 53 = .ok (.getfield 65, 3) := by decide +kernel
theorem dX9_told_56 : decode cX9_told 56 = .ok (.getfield 235, 3) := by decide +kernel
theorem dX9_told_59 : decode cX9_told 59 = .ok (.ireturn, 1) := by decide +kernel
theorem dX9_told_60 : decode cX9_told 60 = .ok (.aload_n 0, 1) := by decide +kernel
theorem dX9_told_61 : decode cX9_told 61 = .ok (.getfield 72, 3) := by decide +kernel
theorem dX9_told_64 : decode cX9_told 64 = .ok (.getfield 247, 3) := by decide +kernel
theorem dX9_told_67 : decode cX9_told 67 = .ok (.ireturn, 1) := by decide +kernel
theorem dX9_told_68 : decode cX9_told 68 = .ok (.aload_n 0, 1) := by decide +kernel
theorem dX9_told_69 : decode cX9_told 69 = .ok (.getfield 65, 3) := by decide +kernel
theorem dX9_told_72 : decode cX9_told 72 = .ok (.getfield 267, 3) := by decide +kernel
theorem dX9_told_75 : decode cX9_told 75 = .ok (.aload_n 0, 1) := by decide +kernel
theorem dX9_told_76 : decode cX9_told 76 = .ok (.getfield 65, 3) := by decide +kernel
theorem dX9_told_79 : decode cX9_told 79 = .ok (.invokevirtual 276, 3) := by decide +kernel
theorem dX9_told_82 : decode cX9_told 82 = .ok (.iand, 1) := by decide +kernel
theorem dX9_told_83 : decode cX9_told 83 = .ok (.ireturn, 1) := by decide +kernel
theorem dX9_told_84 : decode cX9_told 84 = .ok (.iload_n 1, 1) := by decide +kernel
theorem dX9_told_85 : decode cX9_told 85 = .ok (.bipush 10, 2) := by decide +kernel
theorem dX9_told_87 : decode cX9_told 87 = .ok (.isub, 1) := by decide +kernel
theorem dX9_told_88 : decode cX9_told 88 = .ok (.invokestatic 77, 3) := by decide +kernel
theorem dX9_told_91 : decode cX9_told 91 = .ok (.ifCond .eq 18, 3) := by decide +kernel
theorem dX9_told_94 : decode cX9_told 94 = .ok (.aload_n 0, 1) := by decide +kernel
theorem dX9_told_95 : decode cX9_told 95 = .ok (.getfield 11, 3) := by decide +kernel
theorem dX9_told_98 : decode cX9_told 98 = .ok (.iload_n 1, 1) := by decide +kernel
theorem dX9_told_99 : decode cX9_told 99 = .ok (.bipush 10, 2) := by decide +kernel
theorem dX9_told_101 : decode cX9_told 101 = .ok (.isub, 1) := by decide +kernel
theorem dX9_told_102 : decode cX9_told 102 = .ok (.aaload, 1) := by decide +kernel
theorem dX9_told_103 : decode cX9_told 103 = .ok (.invokestatic 279, 3) := by decide +kernel
theorem dX9_told_106 : decode cX9_told 106 = .ok (.goto 5, 3) := by decide +kernel
theorem dX9_told_109 : decode cX9_told 109 = .ok (.bipush (-2), 2) := by decide +kernel
theorem dX9_told_111 : decode cX9_told 111 = .ok (.ireturn, 1) := by decide +kernel
theorem dX9_isWithin_0 : decode cX9_isWithin 0 = .ok (.iload_n 0, 1) := by decide +kernel
theorem dX9_isWithin_1 : decode cX9_isWithin 1 = .ok (.iload_n 1, 1) := by decide +kernel
theorem dX9_isWithin_2 : decode cX9_isWithin 2 = .ok (.if_icmp .lt 12, 3) := by decide +kernel
theorem dX9_isWithin_5 : decode cX9_isWithin 5 = .ok (.iload_n 0, 1) := by decide +kernel
theorem dX9_isWithin_6 : decode cX9_isWithin 6 = .ok (.iload_n 2, 1) := by decide +kernel
theorem dX9_isWithin_7 : decode cX9_isWithin 7 = .ok (.if_icmp .gt 7, 3) := by decide +kernel
theorem dX9_isWithin_10 : decode cX9_isWithin 10 = .ok (.iconst 1, 1) := by decide +kernel
theorem dX9_isWithin_11 : decode cX9_isWithin 11 = .ok (.goto 4, 3) := by decide +kernel
theorem dX9_isWithin_14 : decode cX9_isWithin 14 = .ok (.iconst 0, 1) := by decide +kernel
theorem dX9_isWithin_15 : decode cX9_isWithin 15 = .ok (.ireturn, 1) := by decide +kernel
theorem dX9_isRow_0 : decode cX9_isRow 0 = .ok (.iload_n 0, 1) := by decide +kernel
theorem dX9_isRow_1 : decode cX9_isRow 1 = .ok (.iconst 0, 1) := by decide +kernel
theorem dX9_isRow_2 : decode cX9_isRow 2 = .ok (.iconst 5, 1) := by decide +kernel
theorem dX9_isRow_3 : decode cX9_isRow 3 = .ok (.invokestatic 89, 3) := by decide +kernel
theorem dX9_isRow_6 : decode cX9_isRow 6 = .ok (.ireturn, 1) := by decide +kernel
theorem dX9_isYear_0 : decode cX9_isYear 0 = .ok (.iload_n 0, 1) := by decide +kernel
theorem dX9_isYear_1 : decode cX9_isYear 1 = .ok (.iconst 0, 1) := by decide +kernel
theorem dX9_isYear_2 : decode cX9_isYear 2 = .ok (.bipush 23, 2) := by decide +kernel
theorem dX9_isYear_4 : decode cX9_isYear 4 = .ok (.invokestatic 89, 3) := by decide +kernel
theorem dX9_isYear_7 : decode cX9_isYear 7 = .ok (.ireturn, 1) := by decide +kernel
theorem dX9_isDivide_0 : decode cX9_isDivide 0 = .ok (.iload_n 0, 1) := by decide +kernel
theorem dX9_isDivide_1 : decode cX9_isDivide 1 = .ok (.iconst 4, 1) := by decide +kernel
theorem dX9_isDivide_2 : decode cX9_isDivide 2 = .ok (.bipush 22, 2) := by decide +kernel
theorem dX9_isDivide_4 : decode cX9_isDivide 4 = .ok (.invokestatic 89, 3) := by decide +kernel
theorem dX9_isDivide_7 : decode cX9_isDivide 7 = .ok (.ireturn, 1) := by decide +kernel
theorem dX9_isLength_0 : decode cX9_isLength 0 = .ok (.iload_n 0, 1) := by decide +kernel
theorem dX9_isLength_1 : decode cX9_isLength 1 = .ok (.iconst 2, 1) := by decide +kernel
theorem dX9_isLength_2 : decode cX9_isLength 2 = .ok (.bipush 12, 2) := by decide +kernel
theorem dX9_isLength_4 : decode cX9_isLength 4 = .ok (.invokestatic 89, 3) := by decide +kernel
theorem dX9_isLength_7 : decode cX9_isLength 7 = .ok (.ireturn, 1) := by decide +kernel
theorem dX9_isPart_0 : decode cX9_isPart 0 = .ok (.iload_n 0, 1) := by decide +kernel
theorem dX9_isPart_1 : decode cX9_isPart 1 = .ok (.iconst 0, 1) := by decide +kernel
theorem dX9_isPart_2 : decode cX9_isPart 2 = .ok (.iconst 1, 1) := by decide +kernel
theorem dX9_isPart_3 : decode cX9_isPart 3 = .ok (.invokestatic 89, 3) := by decide +kernel
theorem dX9_isPart_6 : decode cX9_isPart 6 = .ok (.ireturn, 1) := by decide +kernel
theorem dX9_isNumberOrNone_0 : decode cX9_isNumberOrNone 0 = .ok (.iload_n 0, 1) := by decide +kernel
theorem dX9_isNumberOrNone_1 : decode cX9_isNumberOrNone 1 = .ok (.ldc 76, 2) := by decide +kernel
theorem dX9_isNumberOrNone_3 : decode cX9_isNumberOrNone 3 = .ok (.if_icmp .eq 14, 3) := by decide +kernel
theorem dX9_isNumberOrNone_6 : decode cX9_isNumberOrNone 6 = .ok (.iload_n 0, 1) := by decide +kernel
theorem dX9_isNumberOrNone_7 : decode cX9_isNumberOrNone 7 = .ok (.bipush (-99), 2) := by decide +kernel
theorem dX9_isNumberOrNone_9 : decode cX9_isNumberOrNone 9 = .ok (.bipush 99, 2) := by decide +kernel
theorem dX9_isNumberOrNone_11 : decode cX9_isNumberOrNone 11 = .ok (.invokestatic 89, 3) := by decide +kernel
theorem dX9_isNumberOrNone_14 : decode cX9_isNumberOrNone 14 = .ok (.ifCond .eq 7, 3) := by decide +kernel
theorem dX9_isNumberOrNone_17 : decode cX9_isNumberOrNone 17 = .ok (.iconst 1, 1) := by decide +kernel
theorem dX9_isNumberOrNone_18 : decode cX9_isNumberOrNone 18 = .ok (.goto 4, 3) := by decide +kernel
theorem dX9_isNumberOrNone_21 : decode cX9_isNumberOrNone 21 = .ok (.iconst 0, 1) := by decide +kernel
theorem dX9_isNumberOrNone_22 : decode cX9_isNumberOrNone 22 = .ok (.ireturn, 1) := by decide +kernel
theorem dX9_refusalOf_0 : decode cX9_refusalOf 0 = .ok (.iload_n 1, 1) := by decide +kernel
theorem dX9_refusalOf_1 : decode cX9_refusalOf 1 = .ok (.ifCond .ne 5, 3) := by decide +kernel
theorem dX9_refusalOf_4 : decode cX9_refusalOf 4 = .ok (.iconst (-1), 1) := by decide +kernel
theorem dX9_refusalOf_5 : decode cX9_refusalOf 5 = .ok (.ireturn, 1) := by decide +kernel
theorem dX9_refusalOf_6 : decode cX9_refusalOf 6 = .ok (.iload_n 2, 1) := by decide +kernel
theorem dX9_refusalOf_7 : decode cX9_refusalOf 7 = .ok (.ifCond .ne 6, 3) := by decide +kernel
theorem dX9_refusalOf_10 : decode cX9_refusalOf 10 = .ok (.bipush (-2), 2) := by decide +kernel
theorem dX9_refusalOf_12 : decode cX9_refusalOf 12 = .ok (.ireturn, 1) := by decide +kernel
theorem dX9_refusalOf_13 : decode cX9_refusalOf 13 = .ok (.aload_n 0, 1) := by decide +kernel
theorem dX9_refusalOf_14 : decode cX9_refusalOf 14 = .ok (.getfield 17, 3) := by decide +kernel
theorem dX9_refusalOf_17 : decode cX9_refusalOf 17 = .ok (.invokevirtual 108, 3) := by decide +kernel
theorem dX9_refusalOf_20 : decode cX9_refusalOf 20 = .ok (.bipush (-6), 2) := by decide +kernel
theorem dX9_refusalOf_22 : decode cX9_refusalOf 22 = .ok (.if_icmp .ne 7, 3) := by decide +kernel
theorem dX9_refusalOf_25 : decode cX9_refusalOf 25 = .ok (.iconst 0, 1) := by decide +kernel
theorem dX9_refusalOf_26 : decode cX9_refusalOf 26 = .ok (.goto 5, 3) := by decide +kernel
theorem dX9_refusalOf_29 : decode cX9_refusalOf 29 = .ok (.bipush (-5), 2) := by decide +kernel
theorem dX9_refusalOf_31 : decode cX9_refusalOf 31 = .ok (.ireturn, 1) := by decide +kernel
theorem dX9_numbersIn_0 : decode cX9_numbersIn 0 = .ok (.iconst 0, 1) := by decide +kernel
theorem dX9_numbersIn_1 : decode cX9_numbersIn 1 = .ok (.istore_n 1, 1) := by decide +kernel
theorem dX9_numbersIn_2 : decode cX9_numbersIn 2 = .ok (.iconst 0, 1) := by decide +kernel
theorem dX9_numbersIn_3 : decode cX9_numbersIn 3 = .ok (.istore_n 2, 1) := by decide +kernel
theorem dX9_numbersIn_4 : decode cX9_numbersIn 4 = .ok (.iload_n 2, 1) := by decide +kernel
theorem dX9_numbersIn_5 : decode cX9_numbersIn 5 = .ok (.bipush 24, 2) := by decide +kernel
theorem dX9_numbersIn_7 : decode cX9_numbersIn 7 = .ok (.if_icmp .ge 20, 3) := by decide +kernel
theorem dX9_numbersIn_10 : decode cX9_numbersIn 10 = .ok (.aload_n 0, 1) := by decide +kernel
theorem dX9_numbersIn_11 : decode cX9_numbersIn 11 = .ok (.iload_n 2, 1) := by decide +kernel
theorem dX9_numbersIn_12 : decode cX9_numbersIn 12 = .ok (.iaload, 1) := by decide +kernel
theorem dX9_numbersIn_13 : decode cX9_numbersIn 13 = .ok (.ldc 76, 2) := by decide +kernel
theorem dX9_numbersIn_15 : decode cX9_numbersIn 15 = .ok (.if_icmp .eq 6, 3) := by decide +kernel
theorem dX9_numbersIn_18 : decode cX9_numbersIn 18 = .ok (.iinc 1 1, 3) := by decide +kernel
theorem dX9_numbersIn_21 : decode cX9_numbersIn 21 = .ok (.iinc 2 1, 3) := by decide +kernel
theorem dX9_numbersIn_24 : decode cX9_numbersIn 24 = .ok (.goto (-20), 3) := by decide +kernel
theorem dX9_numbersIn_27 : decode cX9_numbersIn 27 = .ok (.iload_n 1, 1) := by decide +kernel
theorem dX9_numbersIn_28 : decode cX9_numbersIn 28 = .ok (.ireturn, 1) := by decide +kernel
theorem dX9_takeRounds_0 : decode cX9_takeRounds 0 = .ok (.aload_n 0, 1) := by decide +kernel
theorem dX9_takeRounds_1 : decode cX9_takeRounds 1 = .ok (.getfield 17, 3) := by decide +kernel
theorem dX9_takeRounds_4 : decode cX9_takeRounds 4 = .ok (.aload_n 0, 1) := by decide +kernel
theorem dX9_takeRounds_5 : decode cX9_takeRounds 5 = .ok (.getfield 11, 3) := by decide +kernel
theorem dX9_takeRounds_8 : decode cX9_takeRounds 8 = .ok (.iload_n 1, 1) := by decide +kernel
theorem dX9_takeRounds_9 : decode cX9_takeRounds 9 = .ok (.aaload, 1) := by decide +kernel
theorem dX9_takeRounds_10 : decode cX9_takeRounds 10 = .ok (.aload_n 0, 1) := by decide +kernel
theorem dX9_takeRounds_11 : decode cX9_takeRounds 11 = .ok (.getfield 24, 3) := by decide +kernel
theorem dX9_takeRounds_14 : decode cX9_takeRounds 14 = .ok (.getfield 116, 3) := by decide +kernel
theorem dX9_takeRounds_17 : decode cX9_takeRounds 17 = .ok (.invokevirtual 120, 3) := by decide +kernel
theorem dX9_takeRounds_20 : decode cX9_takeRounds 20 = .ok (.aload_n 0, 1) := by decide +kernel
theorem dX9_takeRounds_21 : decode cX9_takeRounds 21 = .ok (.getfield 24, 3) := by decide +kernel
theorem dX9_takeRounds_24 : decode cX9_takeRounds 24 = .ok (.iload_n 2, 1) := by decide +kernel
theorem dX9_takeRounds_25 : decode cX9_takeRounds 25 = .ok (.invokevirtual 283, 3) := by decide +kernel
theorem dX9_takeRounds_28 : decode cX9_takeRounds 28 = .ok (.aload_n 0, 1) := by decide +kernel
theorem dX9_takeRounds_29 : decode cX9_takeRounds 29 = .ok (.getfield 34, 3) := by decide +kernel
theorem dX9_takeRounds_32 : decode cX9_takeRounds 32 = .ok (.aload_n 0, 1) := by decide +kernel
theorem dX9_takeRounds_33 : decode cX9_takeRounds 33 = .ok (.getfield 24, 3) := by decide +kernel
theorem dX9_takeRounds_36 : decode cX9_takeRounds 36 = .ok (.iload_n 3, 1) := by decide +kernel
theorem dX9_takeRounds_37 : decode cX9_takeRounds 37 = .ok (.iload 4, 2) := by decide +kernel
theorem dX9_takeRounds_39 : decode cX9_takeRounds 39 = .ok (.invokevirtual 286, 3) := by decide +kernel
theorem dX9_takeRounds_42 : decode cX9_takeRounds 42 = .ok (.return_, 1) := by decide +kernel
theorem dX9_takeTwo_0 : decode cX9_takeTwo 0 = .ok (.aload_n 0, 1) := by decide +kernel
theorem dX9_takeTwo_1 : decode cX9_takeTwo 1 = .ok (.getfield 17, 3) := by decide +kernel
theorem dX9_takeTwo_4 : decode cX9_takeTwo 4 = .ok (.aload_n 0, 1) := by decide +kernel
theorem dX9_takeTwo_5 : decode cX9_takeTwo 5 = .ok (.getfield 11, 3) := by decide +kernel
theorem dX9_takeTwo_8 : decode cX9_takeTwo 8 = .ok (.iload_n 1, 1) := by decide +kernel
theorem dX9_takeTwo_9 : decode cX9_takeTwo 9 = .ok (.aaload, 1) := by decide +kernel
theorem dX9_takeTwo_10 : decode cX9_takeTwo 10 = .ok (.aload_n 0, 1) := by decide +kernel
theorem dX9_takeTwo_11 : decode cX9_takeTwo 11 = .ok (.getfield 24, 3) := by decide +kernel
theorem dX9_takeTwo_14 : decode cX9_takeTwo 14 = .ok (.getfield 116, 3) := by decide +kernel
theorem dX9_takeTwo_17 : decode cX9_takeTwo 17 = .ok (.invokevirtual 120, 3) := by decide +kernel
theorem dX9_takeTwo_20 : decode cX9_takeTwo 20 = .ok (.aload_n 0, 1) := by decide +kernel
theorem dX9_takeTwo_21 : decode cX9_takeTwo 21 = .ok (.getfield 17, 3) := by decide +kernel
theorem dX9_takeTwo_24 : decode cX9_takeTwo 24 = .ok (.aload_n 0, 1) := by decide +kernel
theorem dX9_takeTwo_25 : decode cX9_takeTwo 25 = .ok (.getfield 11, 3) := by decide +kernel
theorem dX9_takeTwo_28 : decode cX9_takeTwo 28 = .ok (.iload_n 2, 1) := by decide +kernel
theorem dX9_takeTwo_29 : decode cX9_takeTwo 29 = .ok (.aaload, 1) := by decide +kernel
theorem dX9_takeTwo_30 : decode cX9_takeTwo 30 = .ok (.aload_n 0, 1) := by decide +kernel
theorem dX9_takeTwo_31 : decode cX9_takeTwo 31 = .ok (.getfield 28, 3) := by decide +kernel
theorem dX9_takeTwo_34 : decode cX9_takeTwo 34 = .ok (.getfield 116, 3) := by decide +kernel
theorem dX9_takeTwo_37 : decode cX9_takeTwo 37 = .ok (.invokevirtual 120, 3) := by decide +kernel
theorem dX9_takeTwo_40 : decode cX9_takeTwo 40 = .ok (.return_, 1) := by decide +kernel
theorem dX9_putShare_0 : decode cX9_putShare 0 = .ok (.aload_n 0, 1) := by decide +kernel
theorem dX9_putShare_1 : decode cX9_putShare 1 = .ok (.iload_n 1, 1) := by decide +kernel
theorem dX9_putShare_2 : decode cX9_putShare 2 = .ok (.bipush 24, 2) := by decide +kernel
theorem dX9_putShare_4 : decode cX9_putShare 4 = .ok (.iload_n 2, 1) := by decide +kernel
theorem dX9_putShare_5 : decode cX9_putShare 5 = .ok (.iload_n 2, 1) := by decide +kernel
theorem dX9_putShare_6 : decode cX9_putShare 6 = .ok (.invokevirtual 145, 3) := by decide +kernel
theorem dX9_putShare_9 : decode cX9_putShare 9 = .ok (.aload_n 0, 1) := by decide +kernel
theorem dX9_putShare_10 : decode cX9_putShare 10 = .ok (.getfield 24, 3) := by decide +kernel
theorem dX9_putShare_13 : decode cX9_putShare 13 = .ok (.getfield 290, 3) := by decide +kernel
theorem dX9_putShare_16 : decode cX9_putShare 16 = .ok (.i2l, 1) := by decide +kernel
theorem dX9_putShare_17 : decode cX9_putShare 17 = .ok (.lstore_n 3, 1) := by decide +kernel
theorem dX9_putShare_18 : decode cX9_putShare 18 = .ok (.aload_n 0, 1) := by decide +kernel
theorem dX9_putShare_19 : decode cX9_putShare 19 = .ok (.getfield 24, 3) := by decide +kernel
theorem dX9_putShare_22 : decode cX9_putShare 22 = .ok (.invokevirtual 293, 3) := by decide +kernel
theorem dX9_putShare_25 : decode cX9_putShare 25 = .ok (.lstore 5, 2) := by decide +kernel
theorem dX9_putShare_27 : decode cX9_putShare 27 = .ok (.lload_n 3, 1) := by decide +kernel
theorem dX9_putShare_28 : decode cX9_putShare 28 = .ok (.aload_n 0, 1) := by decide +kernel
theorem dX9_putShare_29 : decode cX9_putShare 29 = .ok (.getfield 34, 3) := by decide +kernel
theorem dX9_putShare_32 : decode cX9_putShare 32 = .ok (.aload_n 0, 1) := by decide +kernel
theorem dX9_putShare_33 : decode cX9_putShare 33 = .ok (.getfield 24, 3) := by decide +kernel
theorem dX9_putShare_36 : decode cX9_putShare 36 = .ok (.getfield 149, 3) := by decide +kernel
theorem dX9_putShare_39 : decode cX9_putShare 39 = .ok (.invokevirtual 152, 3) := by decide +kernel
theorem dX9_putShare_42 : decode cX9_putShare 42 = .ok (.lmul, 1) := by decide +kernel
theorem dX9_putShare_43 : decode cX9_putShare 43 = .ok (.ldc2_w 297, 3) := by decide +kernel
theorem dX9_putShare_46 : decode cX9_putShare 46 = .ok (.lload 5, 2) := by decide +kernel
theorem dX9_putShare_48 : decode cX9_putShare 48 = .ok (.lmul, 1) := by decide +kernel
theorem dX9_putShare_49 : decode cX9_putShare 49 = .ok (.lload 5, 2) := by decide +kernel
theorem dX9_putShare_51 : decode cX9_putShare 51 = .ok (.lmul, 1) := by decide +kernel
theorem dX9_putShare_52 : decode cX9_putShare 52 = .ok (.lsub, 1) := by decide +kernel
theorem dX9_putShare_53 : decode cX9_putShare 53 = .ok (.lstore 7, 2) := by decide +kernel
theorem dX9_putShare_55 : decode cX9_putShare 55 = .ok (.aload_n 0, 1) := by decide +kernel
theorem dX9_putShare_56 : decode cX9_putShare 56 = .ok (.getfield 55, 3) := by decide +kernel
theorem dX9_putShare_59 : decode cX9_putShare 59 = .ok (.lload 7, 2) := by decide +kernel
theorem dX9_putShare_61 : decode cX9_putShare 61 = .ok (.ldc2_w 297, 3) := by decide +kernel
theorem dX9_putShare_64 : decode cX9_putShare 64 = .ok (.lload_n 3, 1) := by decide +kernel
theorem dX9_putShare_65 : decode cX9_putShare 65 = .ok (.aload_n 0, 1) := by decide +kernel
theorem dX9_putShare_66 : decode cX9_putShare 66 = .ok (.getfield 24, 3) := by decide +kernel
theorem dX9_putShare_69 : decode cX9_putShare 69 = .ok (.invokevirtual 299, 3) := by decide +kernel
theorem dX9_putShare_72 : decode cX9_putShare 72 = .ok (.lmul, 1) := by decide +kernel
theorem dX9_putShare_73 : decode cX9_putShare 73 = .ok (.lload 5, 2) := by decide +kernel
theorem dX9_putShare_75 : decode cX9_putShare 75 = .ok (.lload 5, 2) := by decide +kernel
theorem dX9_putShare_77 : decode cX9_putShare 77 = .ok (.lmul, 1) := by decide +kernel
theorem dX9_putShare_78 : decode cX9_putShare 78 = .ok (.lsub, 1) := by decide +kernel
theorem dX9_putShare_79 : decode cX9_putShare 79 = .ok (.lmul, 1) := by decide +kernel
theorem dX9_putShare_80 : decode cX9_putShare 80 = .ok (.invokevirtual 185, 3) := by decide +kernel
theorem dX9_putShare_83 : decode cX9_putShare 83 = .ok (.return_, 1) := by decide +kernel
theorem dX9_oddsOfGreatest_0 : decode cX9_oddsOfGreatest 0 = .ok (.iload_n 2, 1) := by decide +kernel
theorem dX9_oddsOfGreatest_1 : decode cX9_oddsOfGreatest 1 = .ok (.invokestatic 124, 3) := by decide +kernel
theorem dX9_oddsOfGreatest_4 : decode cX9_oddsOfGreatest 4 = .ok (.ifCond .eq 27, 3) := by decide +kernel
theorem dX9_oddsOfGreatest_7 : decode cX9_oddsOfGreatest 7 = .ok (.iload_n 3, 1) := by decide +kernel
theorem dX9_oddsOfGreatest_8 : decode cX9_oddsOfGreatest 8 = .ok (.invokestatic 124, 3) := by decide +kernel
theorem dX9_oddsOfGreatest_11 : decode cX9_oddsOfGreatest 11 = .ok (.ifCond .eq 20, 3) := by decide +kernel
theorem dX9_oddsOfGreatest_14 : decode cX9_oddsOfGreatest 14 = .ok (.iload_n 2, 1) := by decide +kernel
theorem dX9_oddsOfGreatest_15 : decode cX9_oddsOfGreatest 15 = .ok (.iload_n 3, 1) := by decide +kernel
theorem dX9_oddsOfGreatest_16 : decode cX9_oddsOfGreatest 16 = .ok (.if_icmp .gt 15, 3) := by decide +kernel
theorem dX9_oddsOfGreatest_19 : decode cX9_oddsOfGreatest 19 = .ok (.iload 4, 2) := by decide +kernel
theorem dX9_oddsOfGreatest_21 : decode cX9_oddsOfGreatest 21 = .ok (.invokestatic 127, 3) := by decide +kernel
theorem dX9_oddsOfGreatest_24 : decode cX9_oddsOfGreatest 24 = .ok (.ifCond .eq 7, 3) := by decide +kernel
theorem dX9_oddsOfGreatest_27 : decode cX9_oddsOfGreatest 27 = .ok (.iconst 1, 1) := by decide +kernel
theorem dX9_oddsOfGreatest_28 : decode cX9_oddsOfGreatest 28 = .ok (.goto 4, 3) := by decide +kernel
theorem dX9_oddsOfGreatest_31 : decode cX9_oddsOfGreatest 31 = .ok (.iconst 0, 1) := by decide +kernel
theorem dX9_oddsOfGreatest_32 : decode cX9_oddsOfGreatest 32 = .ok (.istore 5, 2) := by decide +kernel
theorem dX9_oddsOfGreatest_34 : decode cX9_oddsOfGreatest 34 = .ok (.aload_n 0, 1) := by decide +kernel
theorem dX9_oddsOfGreatest_35 : decode cX9_oddsOfGreatest 35 = .ok (.iload_n 1, 1) := by decide +kernel
theorem dX9_oddsOfGreatest_36 : decode cX9_oddsOfGreatest 36 = .ok (.invokestatic 77, 3) := by decide +kernel
theorem dX9_oddsOfGreatest_39 : decode cX9_oddsOfGreatest 39 = .ok (.iload 5, 2) := by decide +kernel
theorem dX9_oddsOfGreatest_41 : decode cX9_oddsOfGreatest 41 = .ok (.invokevirtual 112, 3) := by decide +kernel
theorem dX9_oddsOfGreatest_44 : decode cX9_oddsOfGreatest 44 = .ok (.istore 6, 2) := by decide +kernel
theorem dX9_oddsOfGreatest_46 : decode cX9_oddsOfGreatest 46 = .ok (.iload 6, 2) := by decide +kernel
theorem dX9_oddsOfGreatest_48 : decode cX9_oddsOfGreatest 48 = .ok (.ifCond .eq 11, 3) := by decide +kernel
theorem dX9_oddsOfGreatest_51 : decode cX9_oddsOfGreatest 51 = .ok (.ldc2_w 130, 3) := by decide +kernel
theorem dX9_oddsOfGreatest_54 : decode cX9_oddsOfGreatest 54 = .ok (.iload 6, 2) := by decide +kernel
theorem dX9_oddsOfGreatest_56 : decode cX9_oddsOfGreatest 56 = .ok (.i2l, 1) := by decide +kernel
theorem dX9_oddsOfGreatest_57 : decode cX9_oddsOfGreatest 57 = .ok (.ladd, 1) := by decide +kernel
theorem dX9_oddsOfGreatest_58 : decode cX9_oddsOfGreatest 58 = .ok (.lreturn, 1) := by decide +kernel
theorem dX9_oddsOfGreatest_59 : decode cX9_oddsOfGreatest 59 = .ok (.aload_n 0, 1) := by decide +kernel
theorem dX9_oddsOfGreatest_60 : decode cX9_oddsOfGreatest 60 = .ok (.iload_n 1, 1) := by decide +kernel
theorem dX9_oddsOfGreatest_61 : decode cX9_oddsOfGreatest 61 = .ok (.bipush 24, 2) := by decide +kernel
theorem dX9_oddsOfGreatest_63 : decode cX9_oddsOfGreatest 63 = .ok (.iload_n 2, 1) := by decide +kernel
theorem dX9_oddsOfGreatest_64 : decode cX9_oddsOfGreatest 64 = .ok (.iload_n 3, 1) := by decide +kernel
theorem dX9_oddsOfGreatest_65 : decode cX9_oddsOfGreatest 65 = .ok (.invokevirtual 145, 3) := by decide +kernel
theorem dX9_oddsOfGreatest_68 : decode cX9_oddsOfGreatest 68 = .ok (.aload_n 0, 1) := by decide +kernel
theorem dX9_oddsOfGreatest_69 : decode cX9_oddsOfGreatest 69 = .ok (.getfield 24, 3) := by decide +kernel
theorem dX9_oddsOfGreatest_72 : decode cX9_oddsOfGreatest 72 = .ok (.getfield 290, 3) := by decide +kernel
theorem dX9_oddsOfGreatest_75 : decode cX9_oddsOfGreatest 75 = .ok (.iconst 1, 1) := by decide +kernel
theorem dX9_oddsOfGreatest_76 : decode cX9_oddsOfGreatest 76 = .ok (.bipush 7, 2) := by decide +kernel
theorem dX9_oddsOfGreatest_78 : decode cX9_oddsOfGreatest 78 = .ok (.invokestatic 89, 3) := by decide +kernel
theorem dX9_oddsOfGreatest_81 : decode cX9_oddsOfGreatest 81 = .ok (.ifCond .ne 7, 3) := by decide +kernel
theorem dX9_oddsOfGreatest_84 : decode cX9_oddsOfGreatest 84 = .ok (.ldc2_w 238, 3) := by decide +kernel
theorem dX9_oddsOfGreatest_87 : decode cX9_oddsOfGreatest 87 = .ok (.lreturn, 1) := by decide +kernel
theorem dX9_oddsOfGreatest_88 : decode cX9_oddsOfGreatest 88 = .ok (.aload_n 0, 1) := by decide +kernel
theorem dX9_oddsOfGreatest_89 : decode cX9_oddsOfGreatest 89 = .ok (.invokevirtual 302, 3) := by decide +kernel
theorem dX9_oddsOfGreatest_92 : decode cX9_oddsOfGreatest 92 = .ok (.aload_n 0, 1) := by decide +kernel
theorem dX9_oddsOfGreatest_93 : decode cX9_oddsOfGreatest 93 = .ok (.getfield 55, 3) := by decide +kernel
theorem dX9_oddsOfGreatest_96 : decode cX9_oddsOfGreatest 96 = .ok (.iload 4, 2) := by decide +kernel
theorem dX9_oddsOfGreatest_98 : decode cX9_oddsOfGreatest 98 = .ok (.invokevirtual 136, 3) := by decide +kernel
theorem dX9_oddsOfGreatest_101 : decode cX9_oddsOfGreatest 101 = .ok (.lreturn, 1) := by decide +kernel
theorem dX9_countOrders_0 : decode cX9_countOrders 0 = .ok (.aload_n 0, 1) := by decide +kernel
theorem dX9_countOrders_1 : decode cX9_countOrders 1 = .ok (.getfield 34, 3) := by decide +kernel
theorem dX9_countOrders_4 : decode cX9_countOrders 4 = .ok (.aload_n 0, 1) := by decide +kernel
theorem dX9_countOrders_5 : decode cX9_countOrders 5 = .ok (.getfield 24, 3) := by decide +kernel
theorem dX9_countOrders_8 : decode cX9_countOrders 8 = .ok (.getfield 149, 3) := by decide +kernel
theorem dX9_countOrders_11 : decode cX9_countOrders 11 = .ok (.invokevirtual 152, 3) := by decide +kernel
theorem dX9_countOrders_14 : decode cX9_countOrders 14 = .ok (.lstore_n 1, 1) := by decide +kernel
theorem dX9_countOrders_15 : decode cX9_countOrders 15 = .ok (.aload_n 0, 1) := by decide +kernel
theorem dX9_countOrders_16 : decode cX9_countOrders 16 = .ok (.getfield 41, 3) := by decide +kernel
theorem dX9_countOrders_19 : decode cX9_countOrders 19 = .ok (.aload_n 0, 1) := by decide +kernel
theorem dX9_countOrders_20 : decode cX9_countOrders 20 = .ok (.getfield 24, 3) := by decide +kernel
theorem dX9_countOrders_23 : decode cX9_countOrders 23 = .ok (.iconst 1, 1) := by decide +kernel
theorem dX9_countOrders_24 : decode cX9_countOrders 24 = .ok (.invokevirtual 156, 3) := by decide +kernel
theorem dX9_countOrders_27 : decode cX9_countOrders 27 = .ok (.aload_n 0, 1) := by decide +kernel
theorem dX9_countOrders_28 : decode cX9_countOrders 28 = .ok (.getfield 41, 3) := by decide +kernel
theorem dX9_countOrders_31 : decode cX9_countOrders 31 = .ok (.invokevirtual 305, 3) := by decide +kernel
theorem dX9_countOrders_34 : decode cX9_countOrders 34 = .ok (.iconst 0, 1) := by decide +kernel
theorem dX9_countOrders_35 : decode cX9_countOrders 35 = .ok (.istore_n 3, 1) := by decide +kernel
theorem dX9_countOrders_36 : decode cX9_countOrders 36 = .ok (.iconst 0, 1) := by decide +kernel
theorem dX9_countOrders_37 : decode cX9_countOrders 37 = .ok (.istore 4, 2) := by decide +kernel
theorem dX9_countOrders_39 : decode cX9_countOrders 39 = .ok (.iconst 1, 1) := by decide +kernel
theorem dX9_countOrders_40 : decode cX9_countOrders 40 = .ok (.istore 5, 2) := by decide +kernel
theorem dX9_countOrders_42 : decode cX9_countOrders 42 = .ok (.iload 5, 2) := by decide +kernel
theorem dX9_countOrders_44 : decode cX9_countOrders 44 = .ok (.ifCond .eq 46, 3) := by decide +kernel
theorem dX9_countOrders_47 : decode cX9_countOrders 47 = .ok (.iload_n 3, 1) := by decide +kernel
theorem dX9_countOrders_48 : decode cX9_countOrders 48 = .ok (.sipush 5040, 3) := by decide +kernel
theorem dX9_countOrders_51 : decode cX9_countOrders 51 = .ok (.if_icmp .ge 39, 3) := by decide +kernel
theorem dX9_countOrders_54 : decode cX9_countOrders 54 = .ok (.iinc 3 1, 3) := by decide +kernel
theorem dX9_countOrders_57 : decode cX9_countOrders 57 = .ok (.aload_n 0, 1) := by decide +kernel
theorem dX9_countOrders_58 : decode cX9_countOrders 58 = .ok (.getfield 34, 3) := by decide +kernel
theorem dX9_countOrders_61 : decode cX9_countOrders 61 = .ok (.aload_n 0, 1) := by decide +kernel
theorem dX9_countOrders_62 : decode cX9_countOrders 62 = .ok (.getfield 41, 3) := by decide +kernel
theorem dX9_countOrders_65 : decode cX9_countOrders 65 = .ok (.getfield 163, 3) := by decide +kernel
theorem dX9_countOrders_68 : decode cX9_countOrders 68 = .ok (.lload_n 1, 1) := by decide +kernel
theorem dX9_countOrders_69 : decode cX9_countOrders 69 = .ok (.invokevirtual 164, 3) := by decide +kernel
theorem dX9_countOrders_72 : decode cX9_countOrders 72 = .ok (.ifCond .eq 6, 3) := by decide +kernel
theorem dX9_countOrders_75 : decode cX9_countOrders 75 = .ok (.iinc 4 1, 3) := by decide +kernel
theorem dX9_countOrders_78 : decode cX9_countOrders 78 = .ok (.aload_n 0, 1) := by decide +kernel
theorem dX9_countOrders_79 : decode cX9_countOrders 79 = .ok (.getfield 41, 3) := by decide +kernel
theorem dX9_countOrders_82 : decode cX9_countOrders 82 = .ok (.invokevirtual 308, 3) := by decide +kernel
theorem dX9_countOrders_85 : decode cX9_countOrders 85 = .ok (.istore 5, 2) := by decide +kernel
theorem dX9_countOrders_87 : decode cX9_countOrders 87 = .ok (.goto (-45), 3) := by decide +kernel
theorem dX9_countOrders_90 : decode cX9_countOrders 90 = .ok (.aload_n 0, 1) := by decide +kernel
theorem dX9_countOrders_91 : decode cX9_countOrders 91 = .ok (.getfield 55, 3) := by decide +kernel
theorem dX9_countOrders_94 : decode cX9_countOrders 94 = .ok (.iload 4, 2) := by decide +kernel
theorem dX9_countOrders_96 : decode cX9_countOrders 96 = .ok (.i2l, 1) := by decide +kernel
theorem dX9_countOrders_97 : decode cX9_countOrders 97 = .ok (.iload_n 3, 1) := by decide +kernel
theorem dX9_countOrders_98 : decode cX9_countOrders 98 = .ok (.i2l, 1) := by decide +kernel
theorem dX9_countOrders_99 : decode cX9_countOrders 99 = .ok (.invokevirtual 185, 3) := by decide +kernel
theorem dX9_countOrders_102 : decode cX9_countOrders 102 = .ok (.return_, 1) := by decide +kernel
theorem dX9_putTogether_0 : decode cX9_putTogether 0 = .ok (.lconst 0, 1) := by decide +kernel
theorem dX9_putTogether_1 : decode cX9_putTogether 1 = .ok (.lstore_n 3, 1) := by decide +kernel
theorem dX9_putTogether_2 : decode cX9_putTogether 2 = .ok (.lconst 0, 1) := by decide +kernel
theorem dX9_putTogether_3 : decode cX9_putTogether 3 = .ok (.lstore 5, 2) := by decide +kernel
theorem dX9_putTogether_5 : decode cX9_putTogether 5 = .ok (.lconst 0, 1) := by decide +kernel
theorem dX9_putTogether_6 : decode cX9_putTogether 6 = .ok (.lstore 7, 2) := by decide +kernel
theorem dX9_putTogether_8 : decode cX9_putTogether 8 = .ok (.lconst 0, 1) := by decide +kernel
theorem dX9_putTogether_9 : decode cX9_putTogether 9 = .ok (.lstore 9, 2) := by decide +kernel
theorem dX9_putTogether_11 : decode cX9_putTogether 11 = .ok (.lconst 0, 1) := by decide +kernel
theorem dX9_putTogether_12 : decode cX9_putTogether 12 = .ok (.lstore 11, 2) := by decide +kernel
theorem dX9_putTogether_14 : decode cX9_putTogether 14 = .ok (.lconst 0, 1) := by decide +kernel
theorem dX9_putTogether_15 : decode cX9_putTogether 15 = .ok (.lstore 13, 2) := by decide +kernel
theorem dX9_putTogether_17 : decode cX9_putTogether 17 = .ok (.iconst 0, 1) := by decide +kernel
theorem dX9_putTogether_18 : decode cX9_putTogether 18 = .ok (.istore 15, 2) := by decide +kernel
theorem dX9_putTogether_20 : decode cX9_putTogether 20 = .ok (.iload 15, 2) := by decide +kernel
theorem dX9_putTogether_22 : decode cX9_putTogether 22 = .ok (.bipush 24, 2) := by decide +kernel
theorem dX9_putTogether_24 : decode cX9_putTogether 24 = .ok (.if_icmp .ge 109, 3) := by decide +kernel
theorem dX9_putTogether_27 : decode cX9_putTogether 27 = .ok (.aload_n 0, 1) := by decide +kernel
theorem dX9_putTogether_28 : decode cX9_putTogether 28 = .ok (.getfield 24, 3) := by decide +kernel
theorem dX9_putTogether_31 : decode cX9_putTogether 31 = .ok (.getfield 116, 3) := by decide +kernel
theorem dX9_putTogether_34 : decode cX9_putTogether 34 = .ok (.iload 15, 2) := by decide +kernel
theorem dX9_putTogether_36 : decode cX9_putTogether 36 = .ok (.iaload, 1) := by decide +kernel
theorem dX9_putTogether_37 : decode cX9_putTogether 37 = .ok (.i2l, 1) := by decide +kernel
theorem dX9_putTogether_38 : decode cX9_putTogether 38 = .ok (.lstore 16, 2) := by decide +kernel
theorem dX9_putTogether_40 : decode cX9_putTogether 40 = .ok (.aload_n 0, 1) := by decide +kernel
theorem dX9_putTogether_41 : decode cX9_putTogether 41 = .ok (.getfield 28, 3) := by decide +kernel
theorem dX9_putTogether_44 : decode cX9_putTogether 44 = .ok (.getfield 116, 3) := by decide +kernel
theorem dX9_putTogether_47 : decode cX9_putTogether 47 = .ok (.iload 15, 2) := by decide +kernel
theorem dX9_putTogether_49 : decode cX9_putTogether 49 = .ok (.bipush 24, 2) := by decide +kernel
theorem dX9_putTogether_51 : decode cX9_putTogether 51 = .ok (.iadd, 1) := by decide +kernel
theorem dX9_putTogether_52 : decode cX9_putTogether 52 = .ok (.iload_n 1, 1) := by decide +kernel
theorem dX9_putTogether_53 : decode cX9_putTogether 53 = .ok (.isub, 1) := by decide +kernel
theorem dX9_putTogether_54 : decode cX9_putTogether 54 = .ok (.bipush 24, 2) := by decide +kernel
theorem dX9_putTogether_56 : decode cX9_putTogether 56 = .ok (.irem, 1) := by decide +kernel
theorem dX9_putTogether_57 : decode cX9_putTogether 57 = .ok (.iaload, 1) := by decide +kernel
theorem dX9_putTogether_58 : decode cX9_putTogether 58 = .ok (.i2l, 1) := by decide +kernel
theorem dX9_putTogether_59 : decode cX9_putTogether 59 = .ok (.lstore 18, 2) := by decide +kernel
theorem dX9_putTogether_61 : decode cX9_putTogether 61 = .ok (.lload 16, 2) := by decide +kernel
theorem dX9_putTogether_63 : decode cX9_putTogether 63 = .ok (.ldc2_w 311, 3) := by decide +kernel
theorem dX9_putTogether_66 : decode cX9_putTogether 66 = .ok (.lcmp, 1) := by decide +kernel
theorem dX9_putTogether_67 : decode cX9_putTogether 67 = .ok (.ifCond .eq 60, 3) := by decide +kernel
theorem dX9_putTogether_70 : decode cX9_putTogether 70 = .ok (.lload 18, 2) := by decide +kernel
theorem dX9_putTogether_72 : decode cX9_putTogether 72 = .ok (.ldc2_w 311, 3) := by decide +kernel
theorem dX9_putTogether_75 : decode cX9_putTogether 75 = .ok (.lcmp, 1) := by decide +kernel
theorem dX9_putTogether_76 : decode cX9_putTogether 76 = .ok (.ifCond .eq 51, 3) := by decide +kernel
theorem dX9_putTogether_79 : decode cX9_putTogether 79 = .ok (.lload_n 3, 1) := by decide +kernel
theorem dX9_putTogether_80 : decode cX9_putTogether 80 = .ok (.lconst 1, 1) := by decide +kernel
theorem dX9_putTogether_81 : decode cX9_putTogether 81 = .ok (.ladd, 1) := by decide +kernel
theorem dX9_putTogether_82 : decode cX9_putTogether 82 = .ok (.lstore_n 3, 1) := by decide +kernel
theorem dX9_putTogether_83 : decode cX9_putTogether 83 = .ok (.lload 5, 2) := by decide +kernel
theorem dX9_putTogether_85 : decode cX9_putTogether 85 = .ok (.lload 16, 2) := by decide +kernel
theorem dX9_putTogether_87 : decode cX9_putTogether 87 = .ok (.ladd, 1) := by decide +kernel
theorem dX9_putTogether_88 : decode cX9_putTogether 88 = .ok (.lstore 5, 2) := by decide +kernel
theorem dX9_putTogether_90 : decode cX9_putTogether 90 = .ok (.lload 7, 2) := by decide +kernel
theorem dX9_putTogether_92 : decode cX9_putTogether 92 = .ok (.lload 18, 2) := by decide +kernel
theorem dX9_putTogether_94 : decode cX9_putTogether 94 = .ok (.ladd, 1) := by decide +kernel
theorem dX9_putTogether_95 : decode cX9_putTogether 95 = .ok (.lstore 7, 2) := by decide +kernel
theorem dX9_putTogether_97 : decode cX9_putTogether 97 = .ok (.lload 9, 2) := by decide +kernel
theorem dX9_putTogether_99 : decode cX9_putTogether 99 = .ok (.lload 16, 2) := by decide +kernel
theorem dX9_putTogether_101 : decode cX9_putTogether 101 = .ok (.lload 16, 2) := by decide +kernel
theorem dX9_putTogether_103 : decode cX9_putTogether 103 = .ok (.lmul, 1) := by decide +kernel
theorem dX9_putTogether_104 : decode cX9_putTogether 104 = .ok (.ladd, 1) := by decide +kernel
theorem dX9_putTogether_105 : decode cX9_putTogether 105 = .ok (.lstore 9, 2) := by decide +kernel
theorem dX9_putTogether_107 : decode cX9_putTogether 107 = .ok (.lload 11, 2) := by decide +kernel
theorem dX9_putTogether_109 : decode cX9_putTogether 109 = .ok (.lload 18, 2) := by decide +kernel
theorem dX9_putTogether_111 : decode cX9_putTogether 111 = .ok (.lload 18, 2) := by decide +kernel
theorem dX9_putTogether_113 : decode cX9_putTogether 113 = .ok (.lmul, 1) := by decide +kernel
theorem dX9_putTogether_114 : decode cX9_putTogether 114 = .ok (.ladd, 1) := by decide +kernel
theorem dX9_putTogether_115 : decode cX9_putTogether 115 = .ok (.lstore 11, 2) := by decide +kernel
theorem dX9_putTogether_117 : decode cX9_putTogether 117 = .ok (.lload 13, 2) := by decide +kernel
theorem dX9_putTogether_119 : decode cX9_putTogether 119 = .ok (.lload 16, 2) := by decide +kernel
theorem dX9_putTogether_121 : decode cX9_putTogether 121 = .ok (.lload 18, 2) := by decide +kernel
theorem dX9_putTogether_123 : decode cX9_putTogether 123 = .ok (.lmul, 1) := by decide +kernel
theorem dX9_putTogether_124 : decode cX9_putTogether 124 = .ok (.ladd, 1) := by decide +kernel
theorem dX9_putTogether_125 : decode cX9_putTogether 125 = .ok (.lstore 13, 2) := by decide +kernel
theorem dX9_putTogether_127 : decode cX9_putTogether 127 = .ok (.iinc 15 1, 3) := by decide +kernel
theorem dX9_putTogether_130 : decode cX9_putTogether 130 = .ok (.goto (-110), 3) := by decide +kernel
theorem dX9_putTogether_133 : decode cX9_putTogether 133 = .ok (.lload_n 3, 1) := by decide +kernel
theorem dX9_putTogether_134 : decode cX9_putTogether 134 = .ok (.lload 13, 2) := by decide +kernel
theorem dX9_putTogether_136 : decode cX9_putTogether 136 = .ok (.lmul, 1) := by decide +kernel
theorem dX9_putTogether_137 : decode cX9_putTogether 137 = .ok (.lload 5, 2) := by decide +kernel
theorem dX9_putTogether_139 : decode cX9_putTogether 139 = .ok (.lload 7, 2) := by decide +kernel
theorem dX9_putTogether_141 : decode cX9_putTogether 141 = .ok (.lmul, 1) := by decide +kernel
theorem dX9_putTogether_142 : decode cX9_putTogether 142 = .ok (.lsub, 1) := by decide +kernel
theorem dX9_putTogether_143 : decode cX9_putTogether 143 = .ok (.lstore 15, 2) := by decide +kernel
theorem dX9_putTogether_145 : decode cX9_putTogether 145 = .ok (.aload_n 2, 1) := by decide +kernel
theorem dX9_putTogether_146 : decode cX9_putTogether 146 = .ok (.lload 15, 2) := by decide +kernel
theorem dX9_putTogether_148 : decode cX9_putTogether 148 = .ok (.lload 15, 2) := by decide +kernel
theorem dX9_putTogether_150 : decode cX9_putTogether 150 = .ok (.lmul, 1) := by decide +kernel
theorem dX9_putTogether_151 : decode cX9_putTogether 151 = .ok (.lload_n 3, 1) := by decide +kernel
theorem dX9_putTogether_152 : decode cX9_putTogether 152 = .ok (.lload 9, 2) := by decide +kernel
theorem dX9_putTogether_154 : decode cX9_putTogether 154 = .ok (.lmul, 1) := by decide +kernel
theorem dX9_putTogether_155 : decode cX9_putTogether 155 = .ok (.lload 5, 2) := by decide +kernel
theorem dX9_putTogether_157 : decode cX9_putTogether 157 = .ok (.lload 5, 2) := by decide +kernel
theorem dX9_putTogether_159 : decode cX9_putTogether 159 = .ok (.lmul, 1) := by decide +kernel
theorem dX9_putTogether_160 : decode cX9_putTogether 160 = .ok (.lsub, 1) := by decide +kernel
theorem dX9_putTogether_161 : decode cX9_putTogether 161 = .ok (.lload_n 3, 1) := by decide +kernel
theorem dX9_putTogether_162 : decode cX9_putTogether 162 = .ok (.lload 11, 2) := by decide +kernel
theorem dX9_putTogether_164 : decode cX9_putTogether 164 = .ok (.lmul, 1) := by decide +kernel
theorem dX9_putTogether_165 : decode cX9_putTogether 165 = .ok (.lload 7, 2) := by decide +kernel
theorem dX9_putTogether_167 : decode cX9_putTogether 167 = .ok (.lload 7, 2) := by decide +kernel
theorem dX9_putTogether_169 : decode cX9_putTogether 169 = .ok (.lmul, 1) := by decide +kernel
theorem dX9_putTogether_170 : decode cX9_putTogether 170 = .ok (.lsub, 1) := by decide +kernel
theorem dX9_putTogether_171 : decode cX9_putTogether 171 = .ok (.lmul, 1) := by decide +kernel
theorem dX9_putTogether_172 : decode cX9_putTogether 172 = .ok (.invokevirtual 185, 3) := by decide +kernel
theorem dX9_putTogether_175 : decode cX9_putTogether 175 = .ok (.return_, 1) := by decide +kernel
theorem dX9_topsOf_0 : decode cX9_topsOf 0 = .ok (.iload_n 0, 1) := by decide +kernel
theorem dX9_topsOf_1 : decode cX9_topsOf 1 = .ok (.iload_n 2, 1) := by decide +kernel
theorem dX9_topsOf_2 : decode cX9_topsOf 2 = .ok (.ishl, 1) := by decide +kernel
theorem dX9_topsOf_3 : decode cX9_topsOf 3 = .ok (.istore_n 3, 1) := by decide +kernel
theorem dX9_topsOf_4 : decode cX9_topsOf 4 = .ok (.iload_n 0, 1) := by decide +kernel
theorem dX9_topsOf_5 : decode cX9_topsOf 5 = .ok (.iload_n 3, 1) := by decide +kernel
theorem dX9_topsOf_6 : decode cX9_topsOf 6 = .ok (.iconst (-1), 1) := by decide +kernel
theorem dX9_topsOf_7 : decode cX9_topsOf 7 = .ok (.ixor, 1) := by decide +kernel
theorem dX9_topsOf_8 : decode cX9_topsOf 8 = .ok (.iand, 1) := by decide +kernel
theorem dX9_topsOf_9 : decode cX9_topsOf 9 = .ok (.istore 4, 2) := by decide +kernel
theorem dX9_topsOf_11 : decode cX9_topsOf 11 = .ok (.iload_n 3, 1) := by decide +kernel
theorem dX9_topsOf_12 : decode cX9_topsOf 12 = .ok (.iload_n 0, 1) := by decide +kernel
theorem dX9_topsOf_13 : decode cX9_topsOf 13 = .ok (.iconst (-1), 1) := by decide +kernel
theorem dX9_topsOf_14 : decode cX9_topsOf 14 = .ok (.ixor, 1) := by decide +kernel
theorem dX9_topsOf_15 : decode cX9_topsOf 15 = .ok (.iand, 1) := by decide +kernel
theorem dX9_topsOf_16 : decode cX9_topsOf 16 = .ok (.istore 5, 2) := by decide +kernel
theorem dX9_topsOf_18 : decode cX9_topsOf 18 = .ok (.iconst 1, 1) := by decide +kernel
theorem dX9_topsOf_19 : decode cX9_topsOf 19 = .ok (.iload_n 1, 1) := by decide +kernel
theorem dX9_topsOf_20 : decode cX9_topsOf 20 = .ok (.iconst 1, 1) := by decide +kernel
theorem dX9_topsOf_21 : decode cX9_topsOf 21 = .ok (.isub, 1) := by decide +kernel
theorem dX9_topsOf_22 : decode cX9_topsOf 22 = .ok (.ishl, 1) := by decide +kernel
theorem dX9_topsOf_23 : decode cX9_topsOf 23 = .ok (.iconst 1, 1) := by decide +kernel
theorem dX9_topsOf_24 : decode cX9_topsOf 24 = .ok (.isub, 1) := by decide +kernel
theorem dX9_topsOf_25 : decode cX9_topsOf 25 = .ok (.iconst 1, 1) := by decide +kernel
theorem dX9_topsOf_26 : decode cX9_topsOf 26 = .ok (.iload_n 2, 1) := by decide +kernel
theorem dX9_topsOf_27 : decode cX9_topsOf 27 = .ok (.ishl, 1) := by decide +kernel
theorem dX9_topsOf_28 : decode cX9_topsOf 28 = .ok (.ineg, 1) := by decide +kernel
theorem dX9_topsOf_29 : decode cX9_topsOf 29 = .ok (.iand, 1) := by decide +kernel
theorem dX9_topsOf_30 : decode cX9_topsOf 30 = .ok (.istore 6, 2) := by decide +kernel
theorem dX9_topsOf_32 : decode cX9_topsOf 32 = .ok (.iload 4, 2) := by decide +kernel
theorem dX9_topsOf_34 : decode cX9_topsOf 34 = .ok (.iload 5, 2) := by decide +kernel
theorem dX9_topsOf_36 : decode cX9_topsOf 36 = .ok (.iconst 1, 1) := by decide +kernel
theorem dX9_topsOf_37 : decode cX9_topsOf 37 = .ok (.ishr, 1) := by decide +kernel
theorem dX9_topsOf_38 : decode cX9_topsOf 38 = .ok (.iand, 1) := by decide +kernel
theorem dX9_topsOf_39 : decode cX9_topsOf 39 = .ok (.iload 6, 2) := by decide +kernel
theorem dX9_topsOf_41 : decode cX9_topsOf 41 = .ok (.iand, 1) := by decide +kernel
theorem dX9_topsOf_42 : decode cX9_topsOf 42 = .ok (.invokestatic 262, 3) := by decide +kernel
theorem dX9_topsOf_45 : decode cX9_topsOf 45 = .ok (.ireturn, 1) := by decide +kernel
theorem dX9_lookLater_0 : decode cX9_lookLater 0 = .ok (.aload_n 0, 1) := by decide +kernel
theorem dX9_lookLater_1 : decode cX9_lookLater 1 = .ok (.iload_n 1, 1) := by decide +kernel
theorem dX9_lookLater_2 : decode cX9_lookLater 2 = .ok (.iload_n 2, 1) := by decide +kernel
theorem dX9_lookLater_3 : decode cX9_lookLater 3 = .ok (.iconst 2, 1) := by decide +kernel
theorem dX9_lookLater_4 : decode cX9_lookLater 4 = .ok (.bipush 12, 2) := by decide +kernel
theorem dX9_lookLater_6 : decode cX9_lookLater 6 = .ok (.invokevirtual 145, 3) := by decide +kernel
theorem dX9_lookLater_9 : decode cX9_lookLater 9 = .ok (.aload_n 0, 1) := by decide +kernel
theorem dX9_lookLater_10 : decode cX9_lookLater 10 = .ok (.getfield 48, 3) := by decide +kernel
theorem dX9_lookLater_13 : decode cX9_lookLater 13 = .ok (.aload_n 0, 1) := by decide +kernel
theorem dX9_lookLater_14 : decode cX9_lookLater 14 = .ok (.getfield 24, 3) := by decide +kernel
theorem dX9_lookLater_17 : decode cX9_lookLater 17 = .ok (.iload_n 2, 1) := by decide +kernel
theorem dX9_lookLater_18 : decode cX9_lookLater 18 = .ok (.aload_n 0, 1) := by decide +kernel
theorem dX9_lookLater_19 : decode cX9_lookLater 19 = .ok (.getfield 34, 3) := by decide +kernel
theorem dX9_lookLater_22 : decode cX9_lookLater 22 = .ok (.aload_n 0, 1) := by decide +kernel
theorem dX9_lookLater_23 : decode cX9_lookLater 23 = .ok (.getfield 24, 3) := by decide +kernel
theorem dX9_lookLater_26 : decode cX9_lookLater 26 = .ok (.getfield 149, 3) := by decide +kernel
theorem dX9_lookLater_29 : decode cX9_lookLater 29 = .ok (.invokevirtual 313, 3) := by decide +kernel
theorem dX9_lookLater_32 : decode cX9_lookLater 32 = .ok (.invokevirtual 316, 3) := by decide +kernel
theorem dX9_lookLater_35 : decode cX9_lookLater 35 = .ok (.return_, 1) := by decide +kernel
theorem dX10_init_0 : decode cX10_init 0 = .ok (.aload_n 0, 1) := by decide +kernel
theorem dX10_init_1 : decode cX10_init 1 = .ok (.invokespecial 1, 3) := by decide +kernel
theorem dX10_init_4 : decode cX10_init 4 = .ok (.aload_n 0, 1) := by decide +kernel
theorem dX10_init_5 : decode cX10_init 5 = .ok (.sipush 144, 3) := by decide +kernel
theorem dX10_init_8 : decode cX10_init 8 = .ok (.newarray .int, 2) := by decide +kernel
theorem dX10_init_10 : decode cX10_init 10 = .ok (.putfield 7, 3) := by decide +kernel
theorem dX10_init_13 : decode cX10_init 13 = .ok (.aload_n 0, 1) := by decide +kernel
theorem dX10_init_14 : decode cX10_init 14 = .ok (.bipush 20, 2) := by decide +kernel
theorem dX10_init_16 : decode cX10_init 16 = .ok (.newarray .int, 2) := by decide +kernel
theorem dX10_init_18 : decode cX10_init 18 = .ok (.putfield 13, 3) := by decide +kernel
theorem dX10_init_21 : decode cX10_init 21 = .ok (.aload_n 0, 1) := by decide +kernel
theorem dX10_init_22 : decode cX10_init 22 = .ok (.bipush 24, 2) := by decide +kernel
theorem dX10_init_24 : decode cX10_init 24 = .ok (.newarray .int, 2) := by decide +kernel
theorem dX10_init_26 : decode cX10_init 26 = .ok (.putfield 16, 3) := by decide +kernel
theorem dX10_init_29 : decode cX10_init 29 = .ok (.aload_n 0, 1) := by decide +kernel
theorem dX10_init_30 : decode cX10_init 30 = .ok (.bipush 24, 2) := by decide +kernel
theorem dX10_init_32 : decode cX10_init 32 = .ok (.newarray .int, 2) := by decide +kernel
theorem dX10_init_34 : decode cX10_init 34 = .ok (.putfield 19, 3) := by decide +kernel
theorem dX10_init_37 : decode cX10_init 37 = .ok (.aload_n 0, 1) := by decide +kernel
theorem dX10_init_38 : decode cX10_init 38 = .ok (.bipush 24, 2) := by decide +kernel
theorem dX10_init_40 : decode cX10_init 40 = .ok (.newarray .int, 2) := by decide +kernel
theorem dX10_init_42 : decode cX10_init 42 = .ok (.putfield 22, 3) := by decide +kernel
theorem dX10_init_45 : decode cX10_init 45 = .ok (.aload_n 0, 1) := by decide +kernel
theorem dX10_init_46 : decode cX10_init 46 = .ok (.bipush 24, 2) := by decide +kernel
theorem dX10_init_48 : decode cX10_init 48 = .ok (.newarray .int, 2) := by decide +kernel
theorem dX10_init_50 : decode cX10_init 50 = .ok (.putfield 25, 3) := by decide +kernel
theorem dX10_init_53 : decode cX10_init 53 = .ok (.aload_n 0, 1) := by decide +kernel
theorem dX10_init_54 : decode cX10_init 54 = .ok (.bipush 12, 2) := by decide +kernel
theorem dX10_init_56 : decode cX10_init 56 = .ok (.newarray .long, 2) := by decide +kernel
theorem dX10_init_58 : decode cX10_init 58 = .ok (.putfield 28, 3) := by decide +kernel
theorem dX10_init_61 : decode cX10_init 61 = .ok (.aload_n 0, 1) := by decide +kernel
theorem dX10_init_62 : decode cX10_init 62 = .ok (.bipush 12, 2) := by decide +kernel
theorem dX10_init_64 : decode cX10_init 64 = .ok (.newarray .int, 2) := by decide +kernel
theorem dX10_init_66 : decode cX10_init 66 = .ok (.putfield 32, 3) := by decide +kernel
theorem dX10_init_69 : decode cX10_init 69 = .ok (.aload_n 0, 1) := by decide +kernel
theorem dX10_init_70 : decode cX10_init 70 = .ok (.bipush 8, 2) := by decide +kernel
theorem dX10_init_72 : decode cX10_init 72 = .ok (.newarray .int, 2) := by decide +kernel
theorem dX10_init_74 : decode cX10_init 74 = .ok (.putfield 35, 3) := by decide +kernel
theorem dX10_init_77 : decode cX10_init 77 = .ok (.aload_n 0, 1) := by decide +kernel
theorem dX10_init_78 : decode cX10_init 78 = .ok (.bipush 24, 2) := by decide +kernel
theorem dX10_init_80 : decode cX10_init 80 = .ok (.newarray .int, 2) := by decide +kernel
theorem dX10_init_82 : decode cX10_init 82 = .ok (.putfield 38, 3) := by decide +kernel
theorem dX10_init_85 : decode cX10_init 85 = .ok (.aload_n 0, 1) := by decide +kernel
theorem dX10_init_86 : decode cX10_init 86 = .ok (.bipush 20, 2) := by decide +kernel
theorem dX10_init_88 : decode cX10_init 88 = .ok (.newarray .int, 2) := by decide +kernel
theorem dX10_init_90 : decode cX10_init 90 = .ok (.putfield 41, 3) := by decide +kernel
theorem dX10_init_93 : decode cX10_init 93 = .ok (.aload_n 0, 1) := by decide +kernel
theorem dX10_init_94 : decode cX10_init 94 = .ok (.bipush 20, 2) := by decide +kernel
theorem dX10_init_96 : decode cX10_init 96 = .ok (.newarray .int, 2) := by decide +kernel
theorem dX10_init_98 : decode cX10_init 98 = .ok (.putfield 44, 3) := by decide +kernel
theorem dX10_init_101 : decode cX10_init 101 = .ok (.aload_n 0, 1) := by decide +kernel
theorem dX10_init_102 : decode cX10_init 102 = .ok (.bipush 20, 2) := by decide +kernel
theorem dX10_init_104 : decode cX10_init 104 = .ok (.newarray .int, 2) := by decide +kernel
theorem dX10_init_106 : decode cX10_init 106 = .ok (.putfield 47, 3) := by decide +kernel
theorem dX10_init_109 : decode cX10_init 109 = .ok (.aload_n 0, 1) := by decide +kernel
theorem dX10_init_110 : decode cX10_init 110 = .ok (.bipush 8, 2) := by decide +kernel
theorem dX10_init_112 : decode cX10_init 112 = .ok (.newarray .int, 2) := by decide +kernel
theorem dX10_init_114 : decode cX10_init 114 = .ok (.putfield 50, 3) := by decide +kernel
theorem dX10_init_117 : decode cX10_init 117 = .ok (.iconst 0, 1) := by decide +kernel
theorem dX10_init_118 : decode cX10_init 118 = .ok (.istore_n 1, 1) := by decide +kernel
theorem dX10_init_119 : decode cX10_init 119 = .ok (.iload_n 1, 1) := by decide +kernel
theorem dX10_init_120 : decode cX10_init 120 = .ok (.sipush 144, 3) := by decide +kernel
theorem dX10_init_123 : decode cX10_init 123 = .ok (.if_icmp .ge 17, 3) := by decide +kernel
theorem dX10_init_126 : decode cX10_init 126 = .ok (.aload_n 0, 1) := by decide +kernel
theorem dX10_init_127 : decode cX10_init 127 = .ok (.getfield 7, 3) := by decide +kernel
theorem dX10_init_130 : decode cX10_init 130 = .ok (.iload_n 1, 1) := by decide +kernel
theorem dX10_init_131 : decode cX10_init 131 = .ok (.ldc 53, 2) := by decide +kernel
theorem dX10_init_133 : decode cX10_init 133 = .ok (.iastore, 1) := by decide +kernel
theorem dX10_init_134 : decode cX10_init 134 = .ok (.iinc 1 1, 3) := by decide +kernel
theorem dX10_init_137 : decode cX10_init 137 = .ok (.goto (-18), 3) := by decide +kernel
theorem dX10_init_140 : decode cX10_init 140 = .ok (.aload_n 0, 1) := by decide +kernel
theorem dX10_init_141 : decode cX10_init 141 = .ok (.bipush 50, 2) := by decide +kernel
theorem dX10_init_143 : decode cX10_init 143 = .ok (.putfield 54, 3) := by decide +kernel
theorem dX10_init_146 : decode cX10_init 146 = .ok (.return_, 1) := by decide +kernel
theorem dX10_in_0 : decode cX10_in 0 = .ok (.lload_n 0, 1) := by decide +kernel
theorem dX10_in_1 : decode cX10_in 1 = .ok (.lload_n 2, 1) := by decide +kernel
theorem dX10_in_2 : decode cX10_in 2 = .ok (.lcmp, 1) := by decide +kernel
theorem dX10_in_3 : decode cX10_in 3 = .ok (.ifCond .lt 14, 3) := by decide +kernel
theorem dX10_in_6 : decode cX10_in 6 = .ok (.lload_n 0, 1) := by decide +kernel
theorem dX10_in_7 : decode cX10_in 7 = .ok (.lload 4, 2) := by decide +kernel
theorem dX10_in_9 : decode cX10_in 9 = .ok (.lcmp, 1) := by decide +kernel
theorem dX10_in_10 : decode cX10_in 10 = .ok (.ifCond .gt 7, 3) := by decide +kernel
theorem dX10_in_13 : decode cX10_in 13 = .ok (.iconst 1, 1) := by decide +kernel
theorem dX10_in_14 : decode cX10_in 14 = .ok (.goto 4, 3) := by decide +kernel
theorem dX10_in_17 : decode cX10_in 17 = .ok (.iconst 0, 1) := by decide +kernel
theorem dX10_in_18 : decode cX10_in 18 = .ok (.ireturn, 1) := by decide +kernel
theorem dX10_ones_0 : decode cX10_ones 0 = .ok (.iconst 0, 1) := by decide +kernel
theorem dX10_ones_1 : decode cX10_ones 1 = .ok (.istore_n 1, 1) := by decide +kernel
theorem dX10_ones_2 : decode cX10_ones 2 = .ok (.iconst 0, 1) := by decide +kernel
theorem dX10_ones_3 : decode cX10_ones 3 = .ok (.istore_n 2, 1) := by decide +kernel
theorem dX10_ones_4 : decode cX10_ones 4 = .ok (.iload_n 2, 1) := by decide +kernel
theorem dX10_ones_5 : decode cX10_ones 5 = .ok (.bipush 20, 2) := by decide +kernel
theorem dX10_ones_7 : decode cX10_ones 7 = .ok (.if_icmp .ge 17, 3) := by decide +kernel
theorem dX10_ones_10 : decode cX10_ones 10 = .ok (.iload_n 1, 1) := by decide +kernel
theorem dX10_ones_11 : decode cX10_ones 11 = .ok (.iload_n 0, 1) := by decide +kernel
theorem dX10_ones_12 : decode cX10_ones 12 = .ok (.iload_n 2, 1) := by decide +kernel
theorem dX10_ones_13 : decode cX10_ones 13 = .ok (.ishr, 1) := by decide +kernel
theorem dX10_ones_14 : decode cX10_ones 14 = .ok (.iconst 1, 1) := by decide +kernel
theorem dX10_ones_15 : decode cX10_ones 15 = .ok (.iand, 1) := by decide +kernel
theorem dX10_ones_16 : decode cX10_ones 16 = .ok (.iadd, 1) := by decide +kernel
theorem dX10_ones_17 : decode cX10_ones 17 = .ok (.istore_n 1, 1) := by decide +kernel
theorem dX10_ones_18 : decode cX10_ones 18 = .ok (.iinc 2 1, 3) := by decide +kernel
theorem dX10_ones_21 : decode cX10_ones 21 = .ok (.goto (-17), 3) := by decide +kernel
theorem dX10_ones_24 : decode cX10_ones 24 = .ok (.iload_n 1, 1) := by decide +kernel
theorem dX10_ones_25 : decode cX10_ones 25 = .ok (.ireturn, 1) := by decide +kernel
theorem dX10_lowest_0 : decode cX10_lowest 0 = .ok (.lload_n 0, 1) := by decide +kernel
theorem dX10_lowest_1 : decode cX10_lowest 1 = .ok (.lconst 0, 1) := by decide +kernel
theorem dX10_lowest_2 : decode cX10_lowest 2 = .ok (.lcmp, 1) := by decide +kernel
theorem dX10_lowest_3 : decode cX10_lowest 3 = .ok (.ifCond .ge 8, 3) := by decide +kernel
theorem dX10_lowest_6 : decode cX10_lowest 6 = .ok (.lload_n 0, 1) := by decide +kernel
theorem dX10_lowest_7 : decode cX10_lowest 7 = .ok (.lneg, 1) := by decide +kernel
theorem dX10_lowest_8 : decode cX10_lowest 8 = .ok (.goto 4, 3) := by decide +kernel
theorem dX10_lowest_11 : decode cX10_lowest 11 = .ok (.lload_n 0, 1) := by decide +kernel
theorem dX10_lowest_12 : decode cX10_lowest 12 = .ok (.lstore 5, 2) := by decide +kernel
theorem dX10_lowest_14 : decode cX10_lowest 14 = .ok (.lload_n 2, 1) := by decide +kernel
theorem dX10_lowest_15 : decode cX10_lowest 15 = .ok (.lstore 7, 2) := by decide +kernel
theorem dX10_lowest_17 : decode cX10_lowest 17 = .ok (.lload 7, 2) := by decide +kernel
theorem dX10_lowest_19 : decode cX10_lowest 19 = .ok (.lconst 0, 1) := by decide +kernel
theorem dX10_lowest_20 : decode cX10_lowest 20 = .ok (.lcmp, 1) := by decide +kernel
theorem dX10_lowest_21 : decode cX10_lowest 21 = .ok (.ifCond .eq 21, 3) := by decide +kernel
theorem dX10_lowest_24 : decode cX10_lowest 24 = .ok (.lload 5, 2) := by decide +kernel
theorem dX10_lowest_26 : decode cX10_lowest 26 = .ok (.lload 7, 2) := by decide +kernel
theorem dX10_lowest_28 : decode cX10_lowest 28 = .ok (.lrem, 1) := by decide +kernel
theorem dX10_lowest_29 : decode cX10_lowest 29 = .ok (.lstore 9, 2) := by decide +kernel
theorem dX10_lowest_31 : decode cX10_lowest 31 = .ok (.lload 7, 2) := by decide +kernel
theorem dX10_lowest_33 : decode cX10_lowest 33 = .ok (.lstore 5, 2) := by decide +kernel
theorem dX10_lowest_35 : decode cX10_lowest 35 = .ok (.lload 9, 2) := by decide +kernel
theorem dX10_lowest_37 : decode cX10_lowest 37 = .ok (.lstore 7, 2) := by decide +kernel
theorem dX10_lowest_39 : decode cX10_lowest 39 = .ok (.goto (-22), 3) := by decide +kernel
theorem dX10_lowest_42 : decode cX10_lowest 42 = .ok (.iload 4, 2) := by decide +kernel
theorem dX10_lowest_44 : decode cX10_lowest 44 = .ok (.ifCond .ne 10, 3) := by decide +kernel
theorem dX10_lowest_47 : decode cX10_lowest 47 = .ok (.lload_n 0, 1) := by decide +kernel
theorem dX10_lowest_48 : decode cX10_lowest 48 = .ok (.lload 5, 2) := by decide +kernel
theorem dX10_lowest_50 : decode cX10_lowest 50 = .ok (.ldiv, 1) := by decide +kernel
theorem dX10_lowest_51 : decode cX10_lowest 51 = .ok (.goto 7, 3) := by decide +kernel
theorem dX10_lowest_54 : decode cX10_lowest 54 = .ok (.lload_n 2, 1) := by decide +kernel
theorem dX10_lowest_55 : decode cX10_lowest 55 = .ok (.lload 5, 2) := by decide +kernel
theorem dX10_lowest_57 : decode cX10_lowest 57 = .ok (.ldiv, 1) := by decide +kernel
theorem dX10_lowest_58 : decode cX10_lowest 58 = .ok (.lreturn, 1) := by decide +kernel
theorem dX10_isPart_0 : decode cX10_isPart 0 = .ok (.iload_n 0, 1) := by decide +kernel
theorem dX10_isPart_1 : decode cX10_isPart 1 = .ok (.i2l, 1) := by decide +kernel
theorem dX10_isPart_2 : decode cX10_isPart 2 = .ok (.lconst 0, 1) := by decide +kernel
theorem dX10_isPart_3 : decode cX10_isPart 3 = .ok (.lconst 1, 1) := by decide +kernel
theorem dX10_isPart_4 : decode cX10_isPart 4 = .ok (.invokestatic 58, 3) := by decide +kernel
theorem dX10_isPart_7 : decode cX10_isPart 7 = .ok (.ireturn, 1) := by decide +kernel
theorem dX10_isRow_0 : decode cX10_isRow 0 = .ok (.iload_n 0, 1) := by decide +kernel
theorem dX10_isRow_1 : decode cX10_isRow 1 = .ok (.i2l, 1) := by decide +kernel
theorem dX10_isRow_2 : decode cX10_isRow 2 = .ok (.lconst 0, 1) := by decide +kernel
theorem dX10_isRow_3 : decode cX10_isRow 3 = .ok (.ldc2_w 62, 3) := by decide +kernel
theorem dX10_isRow_6 : decode cX10_isRow 6 = .ok (.invokestatic 58, 3) := by decide +kernel
theorem dX10_isRow_9 : decode cX10_isRow 9 = .ok (.ireturn, 1) := by decide +kernel
theorem dX10_isYear_0 : decode cX10_isYear 0 = .ok (.iload_n 0, 1) := by decide +kernel
theorem dX10_isYear_1 : decode cX10_isYear 1 = .ok (.i2l, 1) := by decide +kernel
theorem dX10_isYear_2 : decode cX10_isYear 2 = .ok (.lconst 0, 1) := by decide +kernel
theorem dX10_isYear_3 : decode cX10_isYear 3 = .ok (.ldc2_w 64, 3) := by decide +kernel
theorem dX10_isYear_6 : decode cX10_isYear 6 = .ok (.invokestatic 58, 3) := by decide +kernel
theorem dX10_isYear_9 : decode cX10_isYear 9 = .ok (.ireturn, 1) := by decide +kernel
theorem dX10_year_0 : decode cX10_year 0 = .ok (.iload_n 1, 1) := by decide +kernel
theorem dX10_year_1 : decode cX10_year 1 = .ok (.invokestatic 66, 3) := by decide +kernel
theorem dX10_year_4 : decode cX10_year 4 = .ok (.ifCond .ne 6, 3) := by decide +kernel
theorem dX10_year_7 : decode cX10_year 7 = .ok (.ldc 70, 2) := by decide +kernel
theorem dX10_year_9 : decode cX10_year 9 = .ok (.ireturn, 1) := by decide +kernel
theorem dX10_year_10 : decode cX10_year 10 = .ok (.iload_n 2, 1) := by decide +kernel
theorem dX10_year_11 : decode cX10_year 11 = .ok (.invokestatic 71, 3) := by decide +kernel
theorem dX10_year_14 : decode cX10_year 14 = .ok (.ifCond .eq 23, 3) := by decide +kernel
theorem dX10_year_17 : decode cX10_year 17 = .ok (.iload_n 3, 1) := by decide +kernel
theorem dX10_year_18 : decode cX10_year 18 = .ok (.ldc 53, 2) := by decide +kernel
theorem dX10_year_20 : decode cX10_year 20 = .ok (.if_icmp .eq 20, 3) := by decide +kernel
theorem dX10_year_23 : decode cX10_year 23 = .ok (.iload_n 3, 1) := by decide +kernel
theorem dX10_year_24 : decode cX10_year 24 = .ok (.i2l, 1) := by decide +kernel
theorem dX10_year_25 : decode cX10_year 25 = .ok (.ldc2_w 74, 3) := by decide +kernel
theorem dX10_year_28 : decode cX10_year 28 = .ok (.ldc2_w 76, 3) := by decide +kernel
theorem dX10_year_31 : decode cX10_year 31 = .ok (.invokestatic 58, 3) := by decide +kernel
theorem dX10_year_34 : decode cX10_year 34 = .ok (.ifCond .ne 6, 3) := by decide +kernel
theorem dX10_year_37 : decode cX10_year 37 = .ok (.ldc 78, 2) := by decide +kernel
theorem dX10_year_39 : decode cX10_year 39 = .ok (.ireturn, 1) := by decide +kernel
theorem dX10_year_40 : decode cX10_year 40 = .ok (.aload_n 0, 1) := by decide +kernel
theorem dX10_year_41 : decode cX10_year 41 = .ok (.getfield 7, 3) := by decide +kernel
theorem dX10_year_44 : decode cX10_year 44 = .ok (.bipush 24, 2) := by decide +kernel
theorem dX10_year_46 : decode cX10_year 46 = .ok (.iload_n 1, 1) := by decide +kernel
theorem dX10_year_47 : decode cX10_year 47 = .ok (.imul, 1) := by decide +kernel
theorem dX10_year_48 : decode cX10_year 48 = .ok (.iload_n 2, 1) := by decide +kernel
theorem dX10_year_49 : decode cX10_year 49 = .ok (.iadd, 1) := by decide +kernel
theorem dX10_year_50 : decode cX10_year 50 = .ok (.iaload, 1) := by decide +kernel
theorem dX10_year_51 : decode cX10_year 51 = .ok (.istore 4, 2) := by decide +kernel
theorem dX10_year_53 : decode cX10_year 53 = .ok (.aload_n 0, 1) := by decide +kernel
theorem dX10_year_54 : decode cX10_year 54 = .ok (.getfield 7, 3) := by decide +kernel
theorem dX10_year_57 : decode cX10_year 57 = .ok (.bipush 24, 2) := by decide +kernel
theorem dX10_year_59 : decode cX10_year 59 = .ok (.iload_n 1, 1) := by decide +kernel
theorem dX10_year_60 : decode cX10_year 60 = .ok (.imul, 1) := by decide +kernel
theorem dX10_year_61 : decode cX10_year 61 = .ok (.iload_n 2, 1) := by decide +kernel
theorem dX10_year_62 : decode cX10_year 62 = .ok (.iadd, 1) := by decide +kernel
theorem dX10_year_63 : decode cX10_year 63 = .ok (.iload_n 3, 1) := by decide +kernel
theorem dX10_year_64 : decode cX10_year 64 = .ok (.iastore, 1) := by decide +kernel
theorem dX10_year_65 : decode cX10_year 65 = .ok (.iload 4, 2) := by decide +kernel
theorem dX10_year_67 : decode cX10_year 67 = .ok (.ireturn, 1) := by decide +kernel
theorem dX10_say_0 : decode cX10_say 0 = .ok (.iload_n 1, 1) := by decide +kernel
theorem dX10_say_1 : decode cX10_say 1 = .ok (.i2l, 1) := by decide +kernel
theorem dX10_say_2 : decode cX10_say 2 = .ok (.ldc2_w 79, 3) := by decide +kernel
theorem dX10_say_5 : decode cX10_say 5 = .ok (.ldc2_w 81, 3) := by decide +kernel
theorem dX10_say_8 : decode cX10_say 8 = .ok (.invokestatic 58, 3) := by decide +kernel
theorem dX10_say_11 : decode cX10_say 11 = .ok (.ifCond .ne 6, 3) := by decide +kernel
theorem dX10_say_14 : decode cX10_say 14 = .ok (.bipush (-2), 2) := by decide +kernel
theorem dX10_say_16 : decode cX10_say 16 = .ok (.ireturn, 1) := by decide +kernel
theorem dX10_say_17 : decode cX10_say 17 = .ok (.aload_n 0, 1) := by decide +kernel
theorem dX10_say_18 : decode cX10_say 18 = .ok (.getfield 83, 3) := by decide +kernel
theorem dX10_say_21 : decode cX10_say 21 = .ok (.bipush 20, 2) := by decide +kernel
theorem dX10_say_23 : decode cX10_say 23 = .ok (.if_icmp .ne 6, 3) := by decide +kernel
theorem dX10_say_26 : decode cX10_say 26 = .ok (.bipush (-4), 2) := by decide +kernel
theorem dX10_say_28 : decode cX10_say 28 = .ok (.ireturn, 1) := by decide +kernel
theorem dX10_say_29 : decode cX10_say 29 = .ok (.aload_n 0, 1) := by decide +kernel
theorem dX10_say_30 : decode cX10_say 30 = .ok (.getfield 13, 3) := by decide +kernel
theorem dX10_say_33 : decode cX10_say 33 = .ok (.aload_n 0, 1) := by decide +kernel
theorem dX10_say_34 : decode cX10_say 34 = .ok (.getfield 83, 3) := by decide +kernel
theorem dX10_say_37 : decode cX10_say 37 = .ok (.iload_n 1, 1) := by decide +kernel
theorem dX10_say_38 : decode cX10_say 38 = .ok (.iastore, 1) := by decide +kernel
theorem dX10_say_39 : decode cX10_say 39 = .ok (.aload_n 0, 1) := by decide +kernel
theorem dX10_say_40 : decode cX10_say 40 = .ok (.dup, 1) := by decide +kernel
theorem dX10_say_41 : decode cX10_say 41 = .ok (.getfield 83, 3) := by decide +kernel
theorem dX10_say_44 : decode cX10_say 44 = .ok (.iconst 1, 1) := by decide +kernel
theorem dX10_say_45 : decode cX10_say 45 = .ok (.iadd, 1) := by decide +kernel
theorem dX10_say_46 : decode cX10_say 46 = .ok (.putfield 83, 3) := by decide +kernel
theorem dX10_say_49 : decode cX10_say 49 = .ok (.aload_n 0, 1) := by decide +kernel
theorem dX10_say_50 : decode cX10_say 50 = .ok (.getfield 83, 3) := by decide +kernel
theorem dX10_say_53 : decode cX10_say 53 = .ok (.ireturn, 1) := by decide +kernel
theorem dX10_wipe_0 : decode cX10_wipe 0 = .ok (.aload_n 0, 1) := by decide +kernel
theorem dX10_wipe_1 : decode cX10_wipe 1 = .ok (.getfield 83, 3) := by decide +kernel
theorem dX10_wipe_4 : decode cX10_wipe 4 = .ok (.istore_n 1, 1) := by decide +kernel
theorem dX10_wipe_5 : decode cX10_wipe 5 = .ok (.aload_n 0, 1) := by decide +kernel
theorem dX10_wipe_6 : decode cX10_wipe 6 = .ok (.iconst 0, 1) := by decide +kernel
theorem dX10_wipe_7 : decode cX10_wipe 7 = .ok (.putfield 83, 3) := by decide +kernel
theorem dX10_wipe_10 : decode cX10_wipe 10 = .ok (.iload_n 1, 1) := by decide +kernel
theorem dX10_wipe_11 : decode cX10_wipe 11 = .ok (.ireturn, 1) := by decide +kernel
theorem dX10_two_0 : decode cX10_two 0 = .ok (.bipush 10, 2) := by decide +kernel
theorem dX10_two_2 : decode cX10_two 2 = .ok (.aload_n 0, 1) := by decide +kernel
theorem dX10_two_3 : decode cX10_two 3 = .ok (.getfield 13, 3) := by decide +kernel
theorem dX10_two_6 : decode cX10_two 6 = .ok (.iload_n 1, 1) := by decide +kernel
theorem dX10_two_7 : decode cX10_two 7 = .ok (.iaload, 1) := by decide +kernel
theorem dX10_two_8 : decode cX10_two 8 = .ok (.bipush 48, 2) := by decide +kernel
theorem dX10_two_10 : decode cX10_two 10 = .ok (.isub, 1) := by decide +kernel
theorem dX10_two_11 : decode cX10_two 11 = .ok (.imul, 1) := by decide +kernel
theorem dX10_two_12 : decode cX10_two 12 = .ok (.aload_n 0, 1) := by decide +kernel
theorem dX10_two_13 : decode cX10_two 13 = .ok (.getfield 13, 3) := by decide +kernel
theorem dX10_two_16 : decode cX10_two 16 = .ok (.iload_n 1, 1) := by decide +kernel
theorem dX10_two_17 : decode cX10_two 17 = .ok (.iconst 1, 1) := by decide +kernel
theorem dX10_two_18 : decode cX10_two 18 = .ok (.iadd, 1) := by decide +kernel
theorem dX10_two_19 : decode cX10_two 19 = .ok (.iaload, 1) := by decide +kernel
theorem dX10_two_20 : decode cX10_two 20 = .ok (.iadd, 1) := by decide +kernel
theorem dX10_two_21 : decode cX10_two 21 = .ok (.bipush 48, 2) := by decide +kernel
theorem dX10_two_23 : decode cX10_two 23 = .ok (.isub, 1) := by decide +kernel
theorem dX10_two_24 : decode cX10_two 24 = .ok (.ireturn, 1) := by decide +kernel
theorem dX10_mayStand_0 : decode cX10_mayStand 0 = .ok (.aload_n 0, 1) := by decide +kernel
theorem dX10_mayStand_1 : decode cX10_mayStand 1 = .ok (.getfield 13, 3) := by decide +kernel
theorem dX10_mayStand_4 : decode cX10_mayStand 4 = .ok (.iload_n 1, 1) := by decide +kernel
theorem dX10_mayStand_5 : decode cX10_mayStand 5 = .ok (.iaload, 1) := by decide +kernel
theorem dX10_mayStand_6 : decode cX10_mayStand 6 = .ok (.bipush 48, 2) := by decide +kernel
theorem dX10_mayStand_8 : decode cX10_mayStand 8 = .ok (.isub, 1) := by decide +kernel
theorem dX10_mayStand_9 : decode cX10_mayStand 9 = .ok (.istore_n 3, 1) := by decide +kernel
theorem dX10_mayStand_10 : decode cX10_mayStand 10 = .ok (.iload_n 3, 1) := by decide +kernel
theorem dX10_mayStand_11 : decode cX10_mayStand 11 = .ok (.i2l, 1) := by decide +kernel
theorem dX10_mayStand_12 : decode cX10_mayStand 12 = .ok (.lconst 0, 1) := by decide +kernel
theorem dX10_mayStand_13 : decode cX10_mayStand 13 = .ok (.ldc2_w 86, 3) := by decide +kernel
theorem dX10_mayStand_16 : decode cX10_mayStand 16 = .ok (.invokestatic 58, 3) := by decide +kernel
theorem dX10_mayStand_19 : decode cX10_mayStand 19 = .ok (.ifCond .ne 5, 3) := by decide +kernel
theorem dX10_mayStand_22 : decode cX10_mayStand 22 = .ok (.iconst 0, 1) := by decide +kernel
theorem dX10_mayStand_23 : decode cX10_mayStand 23 = .ok (.ireturn, 1) := by decide +kernel
theorem dX10_mayStand_24 : decode cX10_mayStand 24 = .ok (.iload_n 2, 1) := by decide +kernel
theorem dX10_mayStand_25 : decode cX10_mayStand 25 = .ok (.iconst 2, 1) := by decide +kernel
theorem dX10_mayStand_26 : decode cX10_mayStand 26 = .ok (.if_icmp .ge 7, 3) := by decide +kernel
theorem dX10_mayStand_29 : decode cX10_mayStand 29 = .ok (.iconst 0, 1) := by decide +kernel
theorem dX10_mayStand_30 : decode cX10_mayStand 30 = .ok (.goto 10, 3) := by decide +kernel
theorem dX10_mayStand_33 : decode cX10_mayStand 33 = .ok (.aload_n 0, 1) := by decide +kernel
theorem dX10_mayStand_34 : decode cX10_mayStand 34 = .ok (.iload_n 1, 1) := by decide +kernel
theorem dX10_mayStand_35 : decode cX10_mayStand 35 = .ok (.iload_n 2, 1) := by decide +kernel
theorem dX10_mayStand_36 : decode cX10_mayStand 36 = .ok (.isub, 1) := by decide +kernel
theorem dX10_mayStand_37 : decode cX10_mayStand 37 = .ok (.invokevirtual 88, 3) := by decide +kernel
theorem dX10_mayStand_40 : decode cX10_mayStand 40 = .ok (.istore 4, 2) := by decide +kernel
theorem dX10_mayStand_42 : decode cX10_mayStand 42 = .ok (.iload_n 2, 1) := by decide +kernel
theorem dX10_mayStand_43 : decode cX10_mayStand 43 = .ok (.iconst 2, 1) := by decide +kernel
theorem dX10_mayStand_44 : decode cX10_mayStand 44 = .ok (.irem, 1) := by decide +kernel
theorem dX10_mayStand_45 : decode cX10_mayStand 45 = .ok (.ifCond .ne 36, 3) := by decide +kernel
theorem dX10_mayStand_48 : decode cX10_mayStand 48 = .ok (.iload_n 3, 1) := by decide +kernel
theorem dX10_mayStand_49 : decode cX10_mayStand 49 = .ok (.iconst 2, 1) := by decide +kernel
theorem dX10_mayStand_50 : decode cX10_mayStand 50 = .ok (.if_icmp .gt 29, 3) := by decide +kernel
theorem dX10_mayStand_53 : decode cX10_mayStand 53 = .ok (.iload_n 3, 1) := by decide +kernel
theorem dX10_mayStand_54 : decode cX10_mayStand 54 = .ok (.iconst 2, 1) := by decide +kernel
theorem dX10_mayStand_55 : decode cX10_mayStand 55 = .ok (.if_icmp .ne 8, 3) := by decide +kernel
theorem dX10_mayStand_58 : decode cX10_mayStand 58 = .ok (.bipush 23, 2) := by decide +kernel
theorem dX10_mayStand_60 : decode cX10_mayStand 60 = .ok (.goto 10, 3) := by decide +kernel
theorem dX10_mayStand_63 : decode cX10_mayStand 63 = .ok (.bipush 10, 2) := by decide +kernel
theorem dX10_mayStand_65 : decode cX10_mayStand 65 = .ok (.iload_n 3, 1) := by decide +kernel
theorem dX10_mayStand_66 : decode cX10_mayStand 66 = .ok (.imul, 1) := by decide +kernel
theorem dX10_mayStand_67 : decode cX10_mayStand 67 = .ok (.bipush 9, 2) := by decide +kernel
theorem dX10_mayStand_69 : decode cX10_mayStand 69 = .ok (.iadd, 1) := by decide +kernel
theorem dX10_mayStand_70 : decode cX10_mayStand 70 = .ok (.iload 4, 2) := by decide +kernel
theorem dX10_mayStand_72 : decode cX10_mayStand 72 = .ok (.if_icmp .lt 7, 3) := by decide +kernel
theorem dX10_mayStand_75 : decode cX10_mayStand 75 = .ok (.iconst 1, 1) := by decide +kernel
theorem dX10_mayStand_76 : decode cX10_mayStand 76 = .ok (.goto 4, 3) := by decide +kernel
theorem dX10_mayStand_79 : decode cX10_mayStand 79 = .ok (.iconst 0, 1) := by decide +kernel
theorem dX10_mayStand_80 : decode cX10_mayStand 80 = .ok (.ireturn, 1) := by decide +kernel
theorem dX10_mayStand_81 : decode cX10_mayStand 81 = .ok (.aload_n 0, 1) := by decide +kernel
theorem dX10_mayStand_82 : decode cX10_mayStand 82 = .ok (.iload_n 1, 1) := by decide +kernel
theorem dX10_mayStand_83 : decode cX10_mayStand 83 = .ok (.iconst 1, 1) := by decide +kernel
theorem dX10_mayStand_84 : decode cX10_mayStand 84 = .ok (.isub, 1) := by decide +kernel
theorem dX10_mayStand_85 : decode cX10_mayStand 85 = .ok (.invokevirtual 88, 3) := by decide +kernel
theorem dX10_mayStand_88 : decode cX10_mayStand 88 = .ok (.istore 5, 2) := by decide +kernel
theorem dX10_mayStand_90 : decode cX10_mayStand 90 = .ok (.iload 5, 2) := by decide +kernel
theorem dX10_mayStand_92 : decode cX10_mayStand 92 = .ok (.bipush 23, 2) := by decide +kernel
theorem dX10_mayStand_94 : decode cX10_mayStand 94 = .ok (.if_icmp .gt 14, 3) := by decide +kernel
theorem dX10_mayStand_97 : decode cX10_mayStand 97 = .ok (.iload 5, 2) := by decide +kernel
theorem dX10_mayStand_99 : decode cX10_mayStand 99 = .ok (.iload 4, 2) := by decide +kernel
theorem dX10_mayStand_101 : decode cX10_mayStand 101 = .ok (.if_icmp .lt 7, 3) := by decide +kernel
theorem dX10_mayStand_104 : decode cX10_mayStand 104 = .ok (.iconst 1, 1) := by decide +kernel
theorem dX10_mayStand_105 : decode cX10_mayStand 105 = .ok (.goto 4, 3) := by decide +kernel
theorem dX10_mayStand_108 : decode cX10_mayStand 108 = .ok (.iconst 0, 1) := by decide +kernel
theorem dX10_mayStand_109 : decode cX10_mayStand 109 = .ok (.ireturn, 1) := by decide +kernel
theorem dX10_digitsOf_0 : decode cX10_digitsOf 0 = .ok (.iload_n 0, 1) := by decide +kernel
theorem dX10_digitsOf_1 : decode cX10_digitsOf 1 = .ok (.bipush 116, 2) := by decide +kernel
theorem dX10_digitsOf_3 : decode cX10_digitsOf 3 = .ok (.if_icmp .ne 7, 3) := by decide +kernel
theorem dX10_digitsOf_6 : decode cX10_digitsOf 6 = .ok (.iconst 2, 1) := by decide +kernel
theorem dX10_digitsOf_7 : decode cX10_digitsOf 7 = .ok (.goto 40, 3) := by decide +kernel
theorem dX10_digitsOf_10 : decode cX10_digitsOf 10 = .ok (.iload_n 0, 1) := by decide +kernel
theorem dX10_digitsOf_11 : decode cX10_digitsOf 11 = .ok (.bipush 99, 2) := by decide +kernel
theorem dX10_digitsOf_13 : decode cX10_digitsOf 13 = .ok (.if_icmp .ne 7, 3) := by decide +kernel
theorem dX10_digitsOf_16 : decode cX10_digitsOf 16 = .ok (.iconst 4, 1) := by decide +kernel
theorem dX10_digitsOf_17 : decode cX10_digitsOf 17 = .ok (.goto 30, 3) := by decide +kernel
theorem dX10_digitsOf_20 : decode cX10_digitsOf 20 = .ok (.iload_n 0, 1) := by decide +kernel
theorem dX10_digitsOf_21 : decode cX10_digitsOf 21 = .ok (.bipush 115, 2) := by decide +kernel
theorem dX10_digitsOf_23 : decode cX10_digitsOf 23 = .ok (.if_icmp .eq 9, 3) := by decide +kernel
theorem dX10_digitsOf_26 : decode cX10_digitsOf 26 = .ok (.iload_n 0, 1) := by decide +kernel
theorem dX10_digitsOf_27 : decode cX10_digitsOf 27 = .ok (.bipush 108, 2) := by decide +kernel
theorem dX10_digitsOf_29 : decode cX10_digitsOf 29 = .ok (.if_icmp .ne 7, 3) := by decide +kernel
theorem dX10_digitsOf_32 : decode cX10_digitsOf 32 = .ok (.iconst 1, 1) := by decide +kernel
theorem dX10_digitsOf_33 : decode cX10_digitsOf 33 = .ok (.goto 14, 3) := by decide +kernel
theorem dX10_digitsOf_36 : decode cX10_digitsOf 36 = .ok (.iload_n 0, 1) := by decide +kernel
theorem dX10_digitsOf_37 : decode cX10_digitsOf 37 = .ok (.bipush 100, 2) := by decide +kernel
theorem dX10_digitsOf_39 : decode cX10_digitsOf 39 = .ok (.if_icmp .ne 7, 3) := by decide +kernel
theorem dX10_digitsOf_42 : decode cX10_digitsOf 42 = .ok (.iconst 0, 1) := by decide +kernel
theorem dX10_digitsOf_43 : decode cX10_digitsOf 43 = .ok (.goto 4, 3) := by decide +kernel
theorem dX10_digitsOf_46 : decode cX10_digitsOf 46 = .ok (.iconst (-1), 1) := by decide +kernel
theorem dX10_digitsOf_47 : decode cX10_digitsOf 47 = .ok (.ireturn, 1) := by decide +kernel
theorem dX10_fault_0 : decode cX10_fault 0 = .ok (.iconst 0, 1) := by decide +kernel
theorem dX10_fault_1 : decode cX10_fault 1 = .ok (.istore_n 1, 1) := by decide +kernel
theorem dX10_fault_2 : decode cX10_fault 2 = .ok (.iload_n 1, 1) := by decide +kernel
theorem dX10_fault_3 : decode cX10_fault 3 = .ok (.aload_n 0, 1) := by decide +kernel
theorem dX10_fault_4 : decode cX10_fault 4 = .ok (.getfield 83, 3) := by decide +kernel
theorem dX10_fault_7 : decode cX10_fault 7 = .ok (.if_icmp .ge 121, 3) := by decide +kernel
theorem dX10_fault_10 : decode cX10_fault 10 = .ok (.aload_n 0, 1) := by decide +kernel
theorem dX10_fault_11 : decode cX10_fault 11 = .ok (.getfield 13, 3) := by decide +kernel
theorem dX10_fault_14 : decode cX10_fault 14 = .ok (.iload_n 1, 1) := by decide +kernel
theorem dX10_fault_15 : decode cX10_fault 15 = .ok (.iaload, 1) := by decide +kernel
theorem dX10_fault_16 : decode cX10_fault 16 = .ok (.istore_n 2, 1) := by decide +kernel
theorem dX10_fault_17 : decode cX10_fault 17 = .ok (.iload_n 2, 1) := by decide +kernel
theorem dX10_fault_18 : decode cX10_fault 18 = .ok (.invokestatic 92, 3) := by decide +kernel
theorem dX10_fault_21 : decode cX10_fault 21 = .ok (.istore_n 3, 1) := by decide +kernel
theorem dX10_fault_22 : decode cX10_fault 22 = .ok (.iload_n 3, 1) := by decide +kernel
theorem dX10_fault_23 : decode cX10_fault 23 = .ok (.ifCond .ge 5, 3) := by decide +kernel
theorem dX10_fault_26 : decode cX10_fault 26 = .ok (.iload_n 1, 1) := by decide +kernel
theorem dX10_fault_27 : decode cX10_fault 27 = .ok (.ireturn, 1) := by decide +kernel
theorem dX10_fault_28 : decode cX10_fault 28 = .ok (.iinc 1 1, 3) := by decide +kernel
theorem dX10_fault_31 : decode cX10_fault 31 = .ok (.iconst 0, 1) := by decide +kernel
theorem dX10_fault_32 : decode cX10_fault 32 = .ok (.istore 4, 2) := by decide +kernel
theorem dX10_fault_34 : decode cX10_fault 34 = .ok (.iload 4, 2) := by decide +kernel
theorem dX10_fault_36 : decode cX10_fault 36 = .ok (.iload_n 3, 1) := by decide +kernel
theorem dX10_fault_37 : decode cX10_fault 37 = .ok (.if_icmp .ge 88, 3) := by decide +kernel
theorem dX10_fault_40 : decode cX10_fault 40 = .ok (.iload_n 1, 1) := by decide +kernel
theorem dX10_fault_41 : decode cX10_fault 41 = .ok (.aload_n 0, 1) := by decide +kernel
theorem dX10_fault_42 : decode cX10_fault 42 = .ok (.getfield 83, 3) := by decide +kernel
theorem dX10_fault_45 : decode cX10_fault 45 = .ok (.if_icmp .ne 5, 3) := by decide +kernel
theorem dX10_fault_48 : decode cX10_fault 48 = .ok (.iload_n 1, 1) := by decide +kernel
theorem dX10_fault_49 : decode cX10_fault 49 = .ok (.ireturn, 1) := by decide +kernel
theorem dX10_fault_50 : decode cX10_fault 50 = .ok (.iload_n 2, 1) := by decide +kernel
theorem dX10_fault_51 : decode cX10_fault 51 = .ok (.bipush 115, 2) := by decide +kernel
theorem dX10_fault_53 : decode cX10_fault 53 = .ok (.if_icmp .ne 22, 3) := by decide +kernel
theorem dX10_fault_56 : decode cX10_fault 56 = .ok (.aload_n 0, 1) := by decide +kernel
theorem dX10_fault_57 : decode cX10_fault 57 = .ok (.getfield 13, 3) := by decide +kernel
theorem dX10_fault_60 : decode cX10_fault 60 = .ok (.iload_n 1, 1) := by decide +kernel
theorem dX10_fault_61 : decode cX10_fault 61 = .ok (.iaload, 1) := by decide +kernel
theorem dX10_fault_62 : decode cX10_fault 62 = .ok (.i2l, 1) := by decide +kernel
theorem dX10_fault_63 : decode cX10_fault 63 = .ok (.ldc2_w 95, 3) := by decide +kernel
theorem dX10_fault_66 : decode cX10_fault 66 = .ok (.ldc2_w 97, 3) := by decide +kernel
theorem dX10_fault_69 : decode cX10_fault 69 = .ok (.invokestatic 58, 3) := by decide +kernel
theorem dX10_fault_72 : decode cX10_fault 72 = .ok (.goto 35, 3) := by decide +kernel
theorem dX10_fault_75 : decode cX10_fault 75 = .ok (.iload_n 2, 1) := by decide +kernel
theorem dX10_fault_76 : decode cX10_fault 76 = .ok (.bipush 108, 2) := by decide +kernel
theorem dX10_fault_78 : decode cX10_fault 78 = .ok (.if_icmp .ne 22, 3) := by decide +kernel
theorem dX10_fault_81 : decode cX10_fault 81 = .ok (.aload_n 0, 1) := by decide +kernel
theorem dX10_fault_82 : decode cX10_fault 82 = .ok (.getfield 13, 3) := by decide +kernel
theorem dX10_fault_85 : decode cX10_fault 85 = .ok (.iload_n 1, 1) := by decide +kernel
theorem dX10_fault_86 : decode cX10_fault 86 = .ok (.iaload, 1) := by decide +kernel
theorem dX10_fault_87 : decode cX10_fault 87 = .ok (.i2l, 1) := by decide +kernel
theorem dX10_fault_88 : decode cX10_fault 88 = .ok (.ldc2_w 99, 3) := by decide +kernel
theorem dX10_fault_91 : decode cX10_fault 91 = .ok (.ldc2_w 101, 3) := by decide +kernel
theorem dX10_fault_94 : decode cX10_fault 94 = .ok (.invokestatic 58, 3) := by decide +kernel
theorem dX10_fault_97 : decode cX10_fault 97 = .ok (.goto 10, 3) := by decide +kernel
theorem dX10_fault_100 : decode cX10_fault 100 = .ok (.aload_n 0, 1) := by decide +kernel
theorem dX10_fault_101 : decode cX10_fault 101 = .ok (.iload_n 1, 1) := by decide +kernel
theorem dX10_fault_102 : decode cX10_fault 102 = .ok (.iload 4, 2) := by decide +kernel
theorem dX10_fault_104 : decode cX10_fault 104 = .ok (.invokevirtual 103, 3) := by decide +kernel
theorem dX10_fault_107 : decode cX10_fault 107 = .ok (.istore 5, 2) := by decide +kernel
theorem dX10_fault_109 : decode cX10_fault 109 = .ok (.iload 5, 2) := by decide +kernel
theorem dX10_fault_111 : decode cX10_fault 111 = .ok (.ifCond .ne 5, 3) := by decide +kernel
theorem dX10_fault_114 : decode cX10_fault 114 = .ok (.iload_n 1, 1) := by decide +kernel
theorem dX10_fault_115 : decode cX10_fault 115 = .ok (.ireturn, 1) := by decide +kernel
theorem dX10_fault_116 : decode cX10_fault 116 = .ok (.iinc 1 1, 3) := by decide +kernel
theorem dX10_fault_119 : decode cX10_fault 119 = .ok (.iinc 4 1, 3) := by decide +kernel
theorem dX10_fault_122 : decode cX10_fault 122 = .ok (.goto (-88), 3) := by decide +kernel
theorem dX10_fault_125 : decode cX10_fault 125 = .ok (.goto (-123), 3) := by decide +kernel
theorem dX10_fault_128 : decode cX10_fault 128 = .ok (.bipush (-6), 2) := by decide +kernel
theorem dX10_fault_130 : decode cX10_fault 130 = .ok (.ireturn, 1) := by decide +kernel
theorem dX10_held_0 : decode cX10_held 0 = .ok (.lload_n 0, 1) := by decide +kernel
theorem dX10_held_1 : decode cX10_held 1 = .ok (.ldc2_w 107, 3) := by decide +kernel
theorem dX10_held_4 : decode cX10_held 4 = .ok (.lcmp, 1) := by decide +kernel
theorem dX10_held_5 : decode cX10_held 5 = .ok (.ifCond .le 9, 3) := by decide +kernel
theorem dX10_held_8 : decode cX10_held 8 = .ok (.sipush 999, 3) := by decide +kernel
theorem dX10_held_11 : decode cX10_held 11 = .ok (.goto 19, 3) := by decide +kernel
theorem dX10_held_14 : decode cX10_held 14 = .ok (.lload_n 0, 1) := by decide +kernel
theorem dX10_held_15 : decode cX10_held 15 = .ok (.ldc2_w 109, 3) := by decide +kernel
theorem dX10_held_18 : decode cX10_held 18 = .ok (.lcmp, 1) := by decide +kernel
theorem dX10_held_19 : decode cX10_held 19 = .ok (.ifCond .ge 9, 3) := by decide +kernel
theorem dX10_held_22 : decode cX10_held 22 = .ok (.sipush (-999), 3) := by decide +kernel
theorem dX10_held_25 : decode cX10_held 25 = .ok (.goto 5, 3) := by decide +kernel
theorem dX10_held_28 : decode cX10_held 28 = .ok (.lload_n 0, 1) := by decide +kernel
theorem dX10_held_29 : decode cX10_held 29 = .ok (.l2i, 1) := by decide +kernel
theorem dX10_held_30 : decode cX10_held 30 = .ok (.ireturn, 1) := by decide +kernel
theorem dX10_wasAt_0 : decode cX10_wasAt 0 = .ok (.iload_n 1, 1) := by decide +kernel
theorem dX10_wasAt_1 : decode cX10_wasAt 1 = .ok (.invokestatic 71, 3) := by decide +kernel
theorem dX10_wasAt_4 : decode cX10_wasAt 4 = .ok (.ifCond .eq 12, 3) := by decide +kernel
theorem dX10_wasAt_7 : decode cX10_wasAt 7 = .ok (.aload_n 0, 1) := by decide +kernel
theorem dX10_wasAt_8 : decode cX10_wasAt 8 = .ok (.getfield 19, 3) := by decide +kernel
theorem dX10_wasAt_11 : decode cX10_wasAt 11 = .ok (.iload_n 1, 1) := by decide +kernel
theorem dX10_wasAt_12 : decode cX10_wasAt 12 = .ok (.iaload, 1) := by decide +kernel
theorem dX10_wasAt_13 : decode cX10_wasAt 13 = .ok (.goto 5, 3) := by decide +kernel
theorem dX10_wasAt_16 : decode cX10_wasAt 16 = .ok (.ldc 53, 2) := by decide +kernel
theorem dX10_wasAt_18 : decode cX10_wasAt 18 = .ok (.ireturn, 1) := by decide +kernel
theorem dX10_becomes_0 : decode cX10_becomes 0 = .ok (.aload_n 0, 1) := by decide +kernel
theorem dX10_becomes_1 : decode cX10_becomes 1 = .ok (.getfield 13, 3) := by decide +kernel
theorem dX10_becomes_4 : decode cX10_becomes 4 = .ok (.iload_n 2, 1) := by decide +kernel
theorem dX10_becomes_5 : decode cX10_becomes 5 = .ok (.iaload, 1) := by decide +kernel
theorem dX10_becomes_6 : decode cX10_becomes 6 = .ok (.istore_n 3, 1) := by decide +kernel
theorem dX10_becomes_7 : decode cX10_becomes 7 = .ok (.iload_n 3, 1) := by decide +kernel
theorem dX10_becomes_8 : decode cX10_becomes 8 = .ok (.lookupswitch 232 #[(99, 196), (108, 139), (115, 44), (116, 157)], 44) := by decide +kernel
theorem dX10_becomes_52 : decode cX10_becomes 52 = .ok (.iconst 0, 1) := by decide +kernel
theorem dX10_becomes_53 : decode cX10_becomes 53 = .ok (.istore 4, 2) := by decide +kernel
theorem dX10_becomes_55 : decode cX10_becomes 55 = .ok (.iconst 1, 1) := by decide +kernel
theorem dX10_becomes_56 : decode cX10_becomes 56 = .ok (.istore 5, 2) := by decide +kernel
theorem dX10_becomes_58 : decode cX10_becomes 58 = .ok (.iconst 0, 1) := by decide +kernel
theorem dX10_becomes_59 : decode cX10_becomes 59 = .ok (.istore 6, 2) := by decide +kernel
theorem dX10_becomes_61 : decode cX10_becomes 61 = .ok (.iload 6, 2) := by decide +kernel
theorem dX10_becomes_63 : decode cX10_becomes 63 = .ok (.aload_n 0, 1) := by decide +kernel
theorem dX10_becomes_64 : decode cX10_becomes 64 = .ok (.getfield 13, 3) := by decide +kernel
theorem dX10_becomes_67 : decode cX10_becomes 67 = .ok (.iload_n 2, 1) := by decide +kernel
theorem dX10_becomes_68 : decode cX10_becomes 68 = .ok (.iconst 1, 1) := by decide +kernel
theorem dX10_becomes_69 : decode cX10_becomes 69 = .ok (.iadd, 1) := by decide +kernel
theorem dX10_becomes_70 : decode cX10_becomes 70 = .ok (.iaload, 1) := by decide +kernel
theorem dX10_becomes_71 : decode cX10_becomes 71 = .ok (.bipush 48, 2) := by decide +kernel
theorem dX10_becomes_73 : decode cX10_becomes 73 = .ok (.isub, 1) := by decide +kernel
theorem dX10_becomes_74 : decode cX10_becomes 74 = .ok (.if_icmp .ge 56, 3) := by decide +kernel
