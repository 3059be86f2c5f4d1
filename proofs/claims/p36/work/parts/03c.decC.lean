theorem dX10_init_0 : decode cX10_init 0 = .ok (.aload_n 0, 1) := by decide +kernel
theorem dX10_init_1 : decode cX10_init 1 = .ok (.invokespecial 3, 3) := by decide +kernel
theorem dX10_init_4 : decode cX10_init 4 = .ok (.aload_n 0, 1) := by decide +kernel
theorem dX10_init_5 : decode cX10_init 5 = .ok (.new 9, 3) := by decide +kernel
theorem dX10_init_8 : decode cX10_init 8 = .ok (.dup, 1) := by decide +kernel
theorem dX10_init_9 : decode cX10_init 9 = .ok (.invokespecial 11, 3) := by decide +kernel
theorem dX10_init_12 : decode cX10_init 12 = .ok (.putfield 12, 3) := by decide +kernel
theorem dX10_init_15 : decode cX10_init 15 = .ok (.aload_n 0, 1) := by decide +kernel
theorem dX10_init_16 : decode cX10_init 16 = .ok (.new 16, 3) := by decide +kernel
theorem dX10_init_19 : decode cX10_init 19 = .ok (.dup, 1) := by decide +kernel
theorem dX10_init_20 : decode cX10_init 20 = .ok (.invokespecial 18, 3) := by decide +kernel
theorem dX10_init_23 : decode cX10_init 23 = .ok (.putfield 19, 3) := by decide +kernel
theorem dX10_init_26 : decode cX10_init 26 = .ok (.aload_n 0, 1) := by decide +kernel
theorem dX10_init_27 : decode cX10_init 27 = .ok (.new 16, 3) := by decide +kernel
theorem dX10_init_30 : decode cX10_init 30 = .ok (.dup, 1) := by decide +kernel
theorem dX10_init_31 : decode cX10_init 31 = .ok (.invokespecial 18, 3) := by decide +kernel
theorem dX10_init_34 : decode cX10_init 34 = .ok (.putfield 23, 3) := by decide +kernel
theorem dX10_init_37 : decode cX10_init 37 = .ok (.aload_n 0, 1) := by decide +kernel
theorem dX10_init_38 : decode cX10_init 38 = .ok (.new 26, 3) := by decide +kernel
theorem dX10_init_41 : decode cX10_init 41 = .ok (.dup, 1) := by decide +kernel
theorem dX10_init_42 : decode cX10_init 42 = .ok (.invokespecial 28, 3) := by decide +kernel
theorem dX10_init_45 : decode cX10_init 45 = .ok (.putfield 29, 3) := by decide +kernel
theorem dX10_init_48 : decode cX10_init 48 = .ok (.aload_n 0, 1) := by decide +kernel
theorem dX10_init_49 : decode cX10_init 49 = .ok (.new 33, 3) := by decide +kernel
theorem dX10_init_52 : decode cX10_init 52 = .ok (.dup, 1) := by decide +kernel
theorem dX10_init_53 : decode cX10_init 53 = .ok (.invokespecial 35, 3) := by decide +kernel
theorem dX10_init_56 : decode cX10_init 56 = .ok (.putfield 36, 3) := by decide +kernel
theorem dX10_init_59 : decode cX10_init 59 = .ok (.aload_n 0, 1) := by decide +kernel
theorem dX10_init_60 : decode cX10_init 60 = .ok (.new 40, 3) := by decide +kernel
theorem dX10_init_63 : decode cX10_init 63 = .ok (.dup, 1) := by decide +kernel
theorem dX10_init_64 : decode cX10_init 64 = .ok (.invokespecial 42, 3) := by decide +kernel
theorem dX10_init_67 : decode cX10_init 67 = .ok (.putfield 43, 3) := by decide +kernel
theorem dX10_init_70 : decode cX10_init 70 = .ok (.aload_n 0, 1) := by decide +kernel
theorem dX10_init_71 : decode cX10_init 71 = .ok (.new 47, 3) := by decide +kernel
theorem dX10_init_74 : decode cX10_init 74 = .ok (.dup, 1) := by decide +kernel
theorem dX10_init_75 : decode cX10_init 75 = .ok (.invokespecial 49, 3) := by decide +kernel
theorem dX10_init_78 : decode cX10_init 78 = .ok (.putfield 50, 3) := by decide +kernel
theorem dX10_init_81 : decode cX10_init 81 = .ok (.aload_n 0, 1) := by decide +kernel
theorem dX10_init_82 : decode cX10_init 82 = .ok (.new 54, 3) := by decide +kernel
theorem dX10_init_85 : decode cX10_init 85 = .ok (.dup, 1) := by decide +kernel
theorem dX10_init_86 : decode cX10_init 86 = .ok (.invokespecial 56, 3) := by decide +kernel
theorem dX10_init_89 : decode cX10_init 89 = .ok (.putfield 57, 3) := by decide +kernel
theorem dX10_init_92 : decode cX10_init 92 = .ok (.aload_n 0, 1) := by decide +kernel
theorem dX10_init_93 : decode cX10_init 93 = .ok (.iconst (-1), 1) := by decide +kernel
theorem dX10_init_94 : decode cX10_init 94 = .ok (.putfield 61, 3) := by decide +kernel
theorem dX10_init_97 : decode cX10_init 97 = .ok (.aload_n 0, 1) := by decide +kernel
theorem dX10_init_98 : decode cX10_init 98 = .ok (.iconst (-1), 1) := by decide +kernel
theorem dX10_init_99 : decode cX10_init 99 = .ok (.putfield 65, 3) := by decide +kernel
theorem dX10_init_102 : decode cX10_init 102 = .ok (.aload_n 0, 1) := by decide +kernel
theorem dX10_init_103 : decode cX10_init 103 = .ok (.iconst (-1), 1) := by decide +kernel
theorem dX10_init_104 : decode cX10_init 104 = .ok (.putfield 68, 3) := by decide +kernel
theorem dX10_init_107 : decode cX10_init 107 = .ok (.aload_n 0, 1) := by decide +kernel
theorem dX10_init_108 : decode cX10_init 108 = .ok (.iconst (-1), 1) := by decide +kernel
theorem dX10_init_109 : decode cX10_init 109 = .ok (.putfield 71, 3) := by decide +kernel
theorem dX10_init_112 : decode cX10_init 112 = .ok (.return_, 1) := by decide +kernel
theorem dX10_rules_0 : decode cX10_rules 0 = .ok (.iload_n 1, 1) := by decide +kernel
theorem dX10_rules_1 : decode cX10_rules 1 = .ok (.iconst 5, 1) := by decide +kernel
theorem dX10_rules_2 : decode cX10_rules 2 = .ok (.bipush 13, 2) := by decide +kernel
theorem dX10_rules_4 : decode cX10_rules 4 = .ok (.invokestatic 74, 3) := by decide +kernel
theorem dX10_rules_7 : decode cX10_rules 7 = .ok (.ifCond .eq 47, 3) := by decide +kernel
theorem dX10_rules_10 : decode cX10_rules 10 = .ok (.iload_n 2, 1) := by decide +kernel
theorem dX10_rules_11 : decode cX10_rules 11 = .ok (.iconst 3, 1) := by decide +kernel
theorem dX10_rules_12 : decode cX10_rules 12 = .ok (.iconst 4, 1) := by decide +kernel
theorem dX10_rules_13 : decode cX10_rules 13 = .ok (.invokestatic 74, 3) := by decide +kernel
theorem dX10_rules_16 : decode cX10_rules 16 = .ok (.ifCond .eq 38, 3) := by decide +kernel
theorem dX10_rules_19 : decode cX10_rules 19 = .ok (.iload_n 3, 1) := by decide +kernel
theorem dX10_rules_20 : decode cX10_rules 20 = .ok (.iconst 0, 1) := by decide +kernel
theorem dX10_rules_21 : decode cX10_rules 21 = .ok (.iconst 3, 1) := by decide +kernel
theorem dX10_rules_22 : decode cX10_rules 22 = .ok (.invokestatic 74, 3) := by decide +kernel
theorem dX10_rules_25 : decode cX10_rules 25 = .ok (.ifCond .eq 29, 3) := by decide +kernel
theorem dX10_rules_28 : decode cX10_rules 28 = .ok (.iload 4, 2) := by decide +kernel
theorem dX10_rules_30 : decode cX10_rules 30 = .ok (.iconst 0, 1) := by decide +kernel
theorem dX10_rules_31 : decode cX10_rules 31 = .ok (.bipush 99, 2) := by decide +kernel
theorem dX10_rules_33 : decode cX10_rules 33 = .ok (.invokestatic 74, 3) := by decide +kernel
theorem dX10_rules_36 : decode cX10_rules 36 = .ok (.ifCond .eq 18, 3) := by decide +kernel
theorem dX10_rules_39 : decode cX10_rules 39 = .ok (.iload 5, 2) := by decide +kernel
theorem dX10_rules_41 : decode cX10_rules 41 = .ok (.iconst 1, 1) := by decide +kernel
theorem dX10_rules_42 : decode cX10_rules 42 = .ok (.bipush 9, 2) := by decide +kernel
theorem dX10_rules_44 : decode cX10_rules 44 = .ok (.invokestatic 74, 3) := by decide +kernel
theorem dX10_rules_47 : decode cX10_rules 47 = .ok (.ifCond .eq 7, 3) := by decide +kernel
theorem dX10_rules_50 : decode cX10_rules 50 = .ok (.iconst 1, 1) := by decide +kernel
theorem dX10_rules_51 : decode cX10_rules 51 = .ok (.goto 4, 3) := by decide +kernel
theorem dX10_rules_54 : decode cX10_rules 54 = .ok (.iconst 0, 1) := by decide +kernel
theorem dX10_rules_55 : decode cX10_rules 55 = .ok (.istore 6, 2) := by decide +kernel
theorem dX10_rules_57 : decode cX10_rules 57 = .ok (.iload 6, 2) := by decide +kernel
theorem dX10_rules_59 : decode cX10_rules 59 = .ok (.ifCond .ne 11, 3) := by decide +kernel
theorem dX10_rules_62 : decode cX10_rules 62 = .ok (.new 78, 3) := by decide +kernel
theorem dX10_rules_65 : decode cX10_rules 65 = .ok (.dup, 1) := by decide +kernel
theorem dX10_rules_66 : decode cX10_rules 66 = .ok (.invokespecial 80, 3) := by decide +kernel
theorem dX10_rules_69 : decode cX10_rules 69 = .ok (.athrow, 1) := by decide +kernel
theorem dX10_rules_70 : decode cX10_rules 70 = .ok (.aload_n 0, 1) := by decide +kernel
theorem dX10_rules_71 : decode cX10_rules 71 = .ok (.invokevirtual 81, 3) := by decide +kernel
theorem dX10_rules_74 : decode cX10_rules 74 = .ok (.ifCond .eq 11, 3) := by decide +kernel
theorem dX10_rules_77 : decode cX10_rules 77 = .ok (.new 85, 3) := by decide +kernel
theorem dX10_rules_80 : decode cX10_rules 80 = .ok (.dup, 1) := by decide +kernel
theorem dX10_rules_81 : decode cX10_rules 81 = .ok (.invokespecial 87, 3) := by decide +kernel
theorem dX10_rules_84 : decode cX10_rules 84 = .ok (.athrow, 1) := by decide +kernel
theorem dX10_rules_85 : decode cX10_rules 85 = .ok (.aload_n 0, 1) := by decide +kernel
theorem dX10_rules_86 : decode cX10_rules 86 = .ok (.getfield 12, 3) := by decide +kernel
theorem dX10_rules_89 : decode cX10_rules 89 = .ok (.iload_n 1, 1) := by decide +kernel
theorem dX10_rules_90 : decode cX10_rules 90 = .ok (.putfield 88, 3) := by decide +kernel
theorem dX10_rules_93 : decode cX10_rules 93 = .ok (.aload_n 0, 1) := by decide +kernel
theorem dX10_rules_94 : decode cX10_rules 94 = .ok (.getfield 12, 3) := by decide +kernel
theorem dX10_rules_97 : decode cX10_rules 97 = .ok (.iload_n 2, 1) := by decide +kernel
theorem dX10_rules_98 : decode cX10_rules 98 = .ok (.putfield 91, 3) := by decide +kernel
theorem dX10_rules_101 : decode cX10_rules 101 = .ok (.aload_n 0, 1) := by decide +kernel
theorem dX10_rules_102 : decode cX10_rules 102 = .ok (.getfield 12, 3) := by decide +kernel
theorem dX10_rules_105 : decode cX10_rules 105 = .ok (.iload_n 3, 1) := by decide +kernel
theorem dX10_rules_106 : decode cX10_rules 106 = .ok (.putfield 94, 3) := by decide +kernel
theorem dX10_rules_109 : decode cX10_rules 109 = .ok (.aload_n 0, 1) := by decide +kernel
theorem dX10_rules_110 : decode cX10_rules 110 = .ok (.getfield 12, 3) := by decide +kernel
theorem dX10_rules_113 : decode cX10_rules 113 = .ok (.iload 4, 2) := by decide +kernel
theorem dX10_rules_115 : decode cX10_rules 115 = .ok (.putfield 97, 3) := by decide +kernel
theorem dX10_rules_118 : decode cX10_rules 118 = .ok (.aload_n 0, 1) := by decide +kernel
theorem dX10_rules_119 : decode cX10_rules 119 = .ok (.getfield 12, 3) := by decide +kernel
theorem dX10_rules_122 : decode cX10_rules 122 = .ok (.iload 5, 2) := by decide +kernel
theorem dX10_rules_124 : decode cX10_rules 124 = .ok (.putfield 100, 3) := by decide +kernel
theorem dX10_rules_127 : decode cX10_rules 127 = .ok (.aload_n 0, 1) := by decide +kernel
theorem dX10_rules_128 : decode cX10_rules 128 = .ok (.getfield 19, 3) := by decide +kernel
theorem dX10_rules_131 : decode cX10_rules 131 = .ok (.invokevirtual 103, 3) := by decide +kernel
theorem dX10_rules_134 : decode cX10_rules 134 = .ok (.aload_n 0, 1) := by decide +kernel
theorem dX10_rules_135 : decode cX10_rules 135 = .ok (.getfield 43, 3) := by decide +kernel
theorem dX10_rules_138 : decode cX10_rules 138 = .ok (.invokevirtual 106, 3) := by decide +kernel
theorem dX10_rules_141 : decode cX10_rules 141 = .ok (.aload_n 0, 1) := by decide +kernel
theorem dX10_rules_142 : decode cX10_rules 142 = .ok (.getfield 12, 3) := by decide +kernel
theorem dX10_rules_145 : decode cX10_rules 145 = .ok (.invokevirtual 107, 3) := by decide +kernel
theorem dX10_rules_148 : decode cX10_rules 148 = .ok (.ireturn, 1) := by decide +kernel
theorem dX10_player_0 : decode cX10_player 0 = .ok (.iload_n 1, 1) := by decide +kernel
theorem dX10_player_1 : decode cX10_player 1 = .ok (.iconst 0, 1) := by decide +kernel
theorem dX10_player_2 : decode cX10_player 2 = .ok (.iconst 1, 1) := by decide +kernel
theorem dX10_player_3 : decode cX10_player 3 = .ok (.invokestatic 74, 3) := by decide +kernel
theorem dX10_player_6 : decode cX10_player 6 = .ok (.ifCond .eq 12, 3) := by decide +kernel
theorem dX10_player_9 : decode cX10_player 9 = .ok (.iload_n 2, 1) := by decide +kernel
theorem dX10_player_10 : decode cX10_player 10 = .ok (.iconst 0, 1) := by decide +kernel
theorem dX10_player_11 : decode cX10_player 11 = .ok (.iconst 3, 1) := by decide +kernel
theorem dX10_player_12 : decode cX10_player 12 = .ok (.invokestatic 74, 3) := by decide +kernel
theorem dX10_player_15 : decode cX10_player 15 = .ok (.ifCond .ne 11, 3) := by decide +kernel
theorem dX10_player_18 : decode cX10_player 18 = .ok (.new 78, 3) := by decide +kernel
theorem dX10_player_21 : decode cX10_player 21 = .ok (.dup, 1) := by decide +kernel
theorem dX10_player_22 : decode cX10_player 22 = .ok (.invokespecial 80, 3) := by decide +kernel
theorem dX10_player_25 : decode cX10_player 25 = .ok (.athrow, 1) := by decide +kernel
theorem dX10_player_26 : decode cX10_player 26 = .ok (.aload_n 0, 1) := by decide +kernel
theorem dX10_player_27 : decode cX10_player 27 = .ok (.invokevirtual 81, 3) := by decide +kernel
theorem dX10_player_30 : decode cX10_player 30 = .ok (.ifCond .ne 14, 3) := by decide +kernel
theorem dX10_player_33 : decode cX10_player 33 = .ok (.aload_n 0, 1) := by decide +kernel
theorem dX10_player_34 : decode cX10_player 34 = .ok (.getfield 29, 3) := by decide +kernel
theorem dX10_player_37 : decode cX10_player 37 = .ok (.getfield 111, 3) := by decide +kernel
theorem dX10_player_40 : decode cX10_player 40 = .ok (.iconst 4, 1) := by decide +kernel
theorem dX10_player_41 : decode cX10_player 41 = .ok (.if_icmp .lt 11, 3) := by decide +kernel
theorem dX10_player_44 : decode cX10_player 44 = .ok (.new 85, 3) := by decide +kernel
theorem dX10_player_47 : decode cX10_player 47 = .ok (.dup, 1) := by decide +kernel
theorem dX10_player_48 : decode cX10_player 48 = .ok (.invokespecial 87, 3) := by decide +kernel
theorem dX10_player_51 : decode cX10_player 51 = .ok (.athrow, 1) := by decide +kernel
theorem dX10_player_52 : decode cX10_player 52 = .ok (.aload_n 0, 1) := by decide +kernel
theorem dX10_player_53 : decode cX10_player 53 = .ok (.getfield 29, 3) := by decide +kernel
theorem dX10_player_56 : decode cX10_player 56 = .ok (.iload_n 1, 1) := by decide +kernel
theorem dX10_player_57 : decode cX10_player 57 = .ok (.iload_n 2, 1) := by decide +kernel
theorem dX10_player_58 : decode cX10_player 58 = .ok (.invokevirtual 114, 3) := by decide +kernel
theorem dX10_player_61 : decode cX10_player 61 = .ok (.ireturn, 1) := by decide +kernel
theorem dX10_deal_0 : decode cX10_deal 0 = .ok (.iload_n 1, 1) := by decide +kernel
theorem dX10_deal_1 : decode cX10_deal 1 = .ok (.iconst 0, 1) := by decide +kernel
theorem dX10_deal_2 : decode cX10_deal 2 = .ok (.ldc 118, 2) := by decide +kernel
theorem dX10_deal_4 : decode cX10_deal 4 = .ok (.invokestatic 74, 3) := by decide +kernel
theorem dX10_deal_7 : decode cX10_deal 7 = .ok (.ifCond .eq 24, 3) := by decide +kernel
theorem dX10_deal_10 : decode cX10_deal 10 = .ok (.iload_n 2, 1) := by decide +kernel
theorem dX10_deal_11 : decode cX10_deal 11 = .ok (.iconst 1, 1) := by decide +kernel
theorem dX10_deal_12 : decode cX10_deal 12 = .ok (.bipush 14, 2) := by decide +kernel
theorem dX10_deal_14 : decode cX10_deal 14 = .ok (.invokestatic 74, 3) := by decide +kernel
theorem dX10_deal_17 : decode cX10_deal 17 = .ok (.ifCond .eq 14, 3) := by decide +kernel
theorem dX10_deal_20 : decode cX10_deal 20 = .ok (.iload_n 3, 1) := by decide +kernel
theorem dX10_deal_21 : decode cX10_deal 21 = .ok (.iconst 1, 1) := by decide +kernel
theorem dX10_deal_22 : decode cX10_deal 22 = .ok (.sipush 9999, 3) := by decide +kernel
theorem dX10_deal_25 : decode cX10_deal 25 = .ok (.invokestatic 74, 3) := by decide +kernel
theorem dX10_deal_28 : decode cX10_deal 28 = .ok (.ifCond .ne 11, 3) := by decide +kernel
theorem dX10_deal_31 : decode cX10_deal 31 = .ok (.new 78, 3) := by decide +kernel
theorem dX10_deal_34 : decode cX10_deal 34 = .ok (.dup, 1) := by decide +kernel
theorem dX10_deal_35 : decode cX10_deal 35 = .ok (.invokespecial 80, 3) := by decide +kernel
theorem dX10_deal_38 : decode cX10_deal 38 = .ok (.athrow, 1) := by decide +kernel
theorem dX10_deal_39 : decode cX10_deal 39 = .ok (.aload_n 0, 1) := by decide +kernel
theorem dX10_deal_40 : decode cX10_deal 40 = .ok (.invokevirtual 81, 3) := by decide +kernel
theorem dX10_deal_43 : decode cX10_deal 43 = .ok (.ifCond .ne 33, 3) := by decide +kernel
theorem dX10_deal_46 : decode cX10_deal 46 = .ok (.aload_n 0, 1) := by decide +kernel
theorem dX10_deal_47 : decode cX10_deal 47 = .ok (.getfield 29, 3) := by decide +kernel
theorem dX10_deal_50 : decode cX10_deal 50 = .ok (.getfield 111, 3) := by decide +kernel
theorem dX10_deal_53 : decode cX10_deal 53 = .ok (.iconst 2, 1) := by decide +kernel
theorem dX10_deal_54 : decode cX10_deal 54 = .ok (.if_icmp .lt 22, 3) := by decide +kernel
theorem dX10_deal_57 : decode cX10_deal 57 = .ok (.aload_n 0, 1) := by decide +kernel
theorem dX10_deal_58 : decode cX10_deal 58 = .ok (.getfield 12, 3) := by decide +kernel
theorem dX10_deal_61 : decode cX10_deal 61 = .ok (.invokevirtual 107, 3) := by decide +kernel
theorem dX10_deal_64 : decode cX10_deal 64 = .ok (.aload_n 0, 1) := by decide +kernel
theorem dX10_deal_65 : decode cX10_deal 65 = .ok (.getfield 29, 3) := by decide +kernel
theorem dX10_deal_68 : decode cX10_deal 68 = .ok (.getfield 111, 3) := by decide +kernel
theorem dX10_deal_71 : decode cX10_deal 71 = .ok (.iload_n 2, 1) := by decide +kernel
theorem dX10_deal_72 : decode cX10_deal 72 = .ok (.imul, 1) := by decide +kernel
theorem dX10_deal_73 : decode cX10_deal 73 = .ok (.if_icmp .ge 11, 3) := by decide +kernel
theorem dX10_deal_76 : decode cX10_deal 76 = .ok (.new 85, 3) := by decide +kernel
theorem dX10_deal_79 : decode cX10_deal 79 = .ok (.dup, 1) := by decide +kernel
theorem dX10_deal_80 : decode cX10_deal 80 = .ok (.invokespecial 87, 3) := by decide +kernel
theorem dX10_deal_83 : decode cX10_deal 83 = .ok (.athrow, 1) := by decide +kernel
theorem dX10_deal_84 : decode cX10_deal 84 = .ok (.aload_n 0, 1) := by decide +kernel
theorem dX10_deal_85 : decode cX10_deal 85 = .ok (.getfield 29, 3) := by decide +kernel
theorem dX10_deal_88 : decode cX10_deal 88 = .ok (.iload_n 3, 1) := by decide +kernel
theorem dX10_deal_89 : decode cX10_deal 89 = .ok (.invokevirtual 119, 3) := by decide +kernel
theorem dX10_deal_92 : decode cX10_deal 92 = .ok (.aload_n 0, 1) := by decide +kernel
theorem dX10_deal_93 : decode cX10_deal 93 = .ok (.getfield 43, 3) := by decide +kernel
theorem dX10_deal_96 : decode cX10_deal 96 = .ok (.iload_n 1, 1) := by decide +kernel
theorem dX10_deal_97 : decode cX10_deal 97 = .ok (.iload_n 2, 1) := by decide +kernel
theorem dX10_deal_98 : decode cX10_deal 98 = .ok (.aload_n 0, 1) := by decide +kernel
theorem dX10_deal_99 : decode cX10_deal 99 = .ok (.getfield 29, 3) := by decide +kernel
theorem dX10_deal_102 : decode cX10_deal 102 = .ok (.getfield 111, 3) := by decide +kernel
theorem dX10_deal_105 : decode cX10_deal 105 = .ok (.invokevirtual 123, 3) := by decide +kernel
theorem dX10_deal_108 : decode cX10_deal 108 = .ok (.aload_n 0, 1) := by decide +kernel
theorem dX10_deal_109 : decode cX10_deal 109 = .ok (.getfield 19, 3) := by decide +kernel
theorem dX10_deal_112 : decode cX10_deal 112 = .ok (.aload_n 0, 1) := by decide +kernel
theorem dX10_deal_113 : decode cX10_deal 113 = .ok (.getfield 12, 3) := by decide +kernel
theorem dX10_deal_116 : decode cX10_deal 116 = .ok (.iload_n 1, 1) := by decide +kernel
theorem dX10_deal_117 : decode cX10_deal 117 = .ok (.iload_n 2, 1) := by decide +kernel
theorem dX10_deal_118 : decode cX10_deal 118 = .ok (.aload_n 0, 1) := by decide +kernel
theorem dX10_deal_119 : decode cX10_deal 119 = .ok (.getfield 29, 3) := by decide +kernel
theorem dX10_deal_122 : decode cX10_deal 122 = .ok (.getfield 111, 3) := by decide +kernel
theorem dX10_deal_125 : decode cX10_deal 125 = .ok (.invokevirtual 126, 3) := by decide +kernel
theorem dX10_deal_128 : decode cX10_deal 128 = .ok (.aload_n 0, 1) := by decide +kernel
theorem dX10_deal_129 : decode cX10_deal 129 = .ok (.iconst 0, 1) := by decide +kernel
theorem dX10_deal_130 : decode cX10_deal 130 = .ok (.putfield 130, 3) := by decide +kernel
theorem dX10_deal_133 : decode cX10_deal 133 = .ok (.aload_n 0, 1) := by decide +kernel
theorem dX10_deal_134 : decode cX10_deal 134 = .ok (.iconst 0, 1) := by decide +kernel
theorem dX10_deal_135 : decode cX10_deal 135 = .ok (.putfield 61, 3) := by decide +kernel
theorem dX10_deal_138 : decode cX10_deal 138 = .ok (.aload_n 0, 1) := by decide +kernel
theorem dX10_deal_139 : decode cX10_deal 139 = .ok (.getfield 19, 3) := by decide +kernel
theorem dX10_deal_142 : decode cX10_deal 142 = .ok (.getfield 133, 3) := by decide +kernel
theorem dX10_deal_145 : decode cX10_deal 145 = .ok (.ireturn, 1) := by decide +kernel
theorem dX10_lay_0 : decode cX10_lay 0 = .ok (.aload_n 0, 1) := by decide +kernel
theorem dX10_lay_1 : decode cX10_lay 1 = .ok (.iload_n 1, 1) := by decide +kernel
theorem dX10_lay_2 : decode cX10_lay 2 = .ok (.invokevirtual 136, 3) := by decide +kernel
theorem dX10_lay_5 : decode cX10_lay 5 = .ok (.aload_n 0, 1) := by decide +kernel
theorem dX10_lay_6 : decode cX10_lay 6 = .ok (.iload_n 1, 1) := by decide +kernel
theorem dX10_lay_7 : decode cX10_lay 7 = .ok (.invokevirtual 139, 3) := by decide +kernel
theorem dX10_lay_10 : decode cX10_lay 10 = .ok (.ifCond .ne 11, 3) := by decide +kernel
theorem dX10_lay_13 : decode cX10_lay 13 = .ok (.new 85, 3) := by decide +kernel
theorem dX10_lay_16 : decode cX10_lay 16 = .ok (.dup, 1) := by decide +kernel
theorem dX10_lay_17 : decode cX10_lay 17 = .ok (.invokespecial 87, 3) := by decide +kernel
theorem dX10_lay_20 : decode cX10_lay 20 = .ok (.athrow, 1) := by decide +kernel
theorem dX10_lay_21 : decode cX10_lay 21 = .ok (.aload_n 0, 1) := by decide +kernel
theorem dX10_lay_22 : decode cX10_lay 22 = .ok (.iload_n 1, 1) := by decide +kernel
theorem dX10_lay_23 : decode cX10_lay 23 = .ok (.invokevirtual 143, 3) := by decide +kernel
theorem dX10_lay_26 : decode cX10_lay 26 = .ok (.aload_n 0, 1) := by decide +kernel
theorem dX10_lay_27 : decode cX10_lay 27 = .ok (.getfield 19, 3) := by decide +kernel
theorem dX10_lay_30 : decode cX10_lay 30 = .ok (.iload_n 1, 1) := by decide +kernel
theorem dX10_lay_31 : decode cX10_lay 31 = .ok (.invokevirtual 146, 3) := by decide +kernel
theorem dX10_lay_34 : decode cX10_lay 34 = .ok (.ireturn, 1) := by decide +kernel
theorem dX10_joker_0 : decode cX10_joker 0 = .ok (.aload_n 0, 1) := by decide +kernel
theorem dX10_joker_1 : decode cX10_joker 1 = .ok (.iload_n 1, 1) := by decide +kernel
theorem dX10_joker_2 : decode cX10_joker 2 = .ok (.invokevirtual 136, 3) := by decide +kernel
theorem dX10_joker_5 : decode cX10_joker 5 = .ok (.aload_n 0, 1) := by decide +kernel
theorem dX10_joker_6 : decode cX10_joker 6 = .ok (.iload_n 1, 1) := by decide +kernel
theorem dX10_joker_7 : decode cX10_joker 7 = .ok (.invokevirtual 150, 3) := by decide +kernel
theorem dX10_joker_10 : decode cX10_joker 10 = .ok (.ifCond .ne 11, 3) := by decide +kernel
theorem dX10_joker_13 : decode cX10_joker 13 = .ok (.new 85, 3) := by decide +kernel
theorem dX10_joker_16 : decode cX10_joker 16 = .ok (.dup, 1) := by decide +kernel
theorem dX10_joker_17 : decode cX10_joker 17 = .ok (.invokespecial 87, 3) := by decide +kernel
theorem dX10_joker_20 : decode cX10_joker 20 = .ok (.athrow, 1) := by decide +kernel
theorem dX10_joker_21 : decode cX10_joker 21 = .ok (.aload_n 0, 1) := by decide +kernel
theorem dX10_joker_22 : decode cX10_joker 22 = .ok (.iload_n 1, 1) := by decide +kernel
theorem dX10_joker_23 : decode cX10_joker 23 = .ok (.invokevirtual 153, 3) := by decide +kernel
theorem dX10_joker_26 : decode cX10_joker 26 = .ok (.aload_n 0, 1) := by decide +kernel
theorem dX10_joker_27 : decode cX10_joker 27 = .ok (.getfield 19, 3) := by decide +kernel
theorem dX10_joker_30 : decode cX10_joker 30 = .ok (.getfield 156, 3) := by decide +kernel
theorem dX10_joker_33 : decode cX10_joker 33 = .ok (.ireturn, 1) := by decide +kernel
theorem dX10_swap_0 : decode cX10_swap 0 = .ok (.aload_n 0, 1) := by decide +kernel
theorem dX10_swap_1 : decode cX10_swap 1 = .ok (.iload_n 1, 1) := by decide +kernel
theorem dX10_swap_2 : decode cX10_swap 2 = .ok (.invokevirtual 136, 3) := by decide +kernel
theorem dX10_swap_5 : decode cX10_swap 5 = .ok (.aload_n 0, 1) := by decide +kernel
theorem dX10_swap_6 : decode cX10_swap 6 = .ok (.iload_n 1, 1) := by decide +kernel
theorem dX10_swap_7 : decode cX10_swap 7 = .ok (.invokevirtual 159, 3) := by decide +kernel
theorem dX10_swap_10 : decode cX10_swap 10 = .ok (.ifCond .ne 11, 3) := by decide +kernel
theorem dX10_swap_13 : decode cX10_swap 13 = .ok (.new 85, 3) := by decide +kernel
theorem dX10_swap_16 : decode cX10_swap 16 = .ok (.dup, 1) := by decide +kernel
theorem dX10_swap_17 : decode cX10_swap 17 = .ok (.invokespecial 87, 3) := by decide +kernel
theorem dX10_swap_20 : decode cX10_swap 20 = .ok (.athrow, 1) := by decide +kernel
theorem dX10_swap_21 : decode cX10_swap 21 = .ok (.aload_n 0, 1) := by decide +kernel
theorem dX10_swap_22 : decode cX10_swap 22 = .ok (.iload_n 1, 1) := by decide +kernel
theorem dX10_swap_23 : decode cX10_swap 23 = .ok (.invokevirtual 162, 3) := by decide +kernel
theorem dX10_swap_26 : decode cX10_swap 26 = .ok (.aload_n 0, 1) := by decide +kernel
theorem dX10_swap_27 : decode cX10_swap 27 = .ok (.getfield 19, 3) := by decide +kernel
theorem dX10_swap_30 : decode cX10_swap 30 = .ok (.getfield 165, 3) := by decide +kernel
theorem dX10_swap_33 : decode cX10_swap 33 = .ok (.ireturn, 1) := by decide +kernel
theorem dX10_back_0 : decode cX10_back 0 = .ok (.aload_n 0, 1) := by decide +kernel
theorem dX10_back_1 : decode cX10_back 1 = .ok (.invokevirtual 168, 3) := by decide +kernel
theorem dX10_back_4 : decode cX10_back 4 = .ok (.ifCond .ne 11, 3) := by decide +kernel
theorem dX10_back_7 : decode cX10_back 7 = .ok (.new 85, 3) := by decide +kernel
theorem dX10_back_10 : decode cX10_back 10 = .ok (.dup, 1) := by decide +kernel
theorem dX10_back_11 : decode cX10_back 11 = .ok (.invokespecial 87, 3) := by decide +kernel
theorem dX10_back_14 : decode cX10_back 14 = .ok (.athrow, 1) := by decide +kernel
theorem dX10_back_15 : decode cX10_back 15 = .ok (.aload_n 0, 1) := by decide +kernel
theorem dX10_back_16 : decode cX10_back 16 = .ok (.invokevirtual 171, 3) := by decide +kernel
theorem dX10_back_19 : decode cX10_back 19 = .ok (.aload_n 0, 1) := by decide +kernel
theorem dX10_back_20 : decode cX10_back 20 = .ok (.getfield 19, 3) := by decide +kernel
theorem dX10_back_23 : decode cX10_back 23 = .ok (.getfield 174, 3) := by decide +kernel
theorem dX10_back_26 : decode cX10_back 26 = .ok (.ireturn, 1) := by decide +kernel
theorem dX10_end_0 : decode cX10_end 0 = .ok (.aload_n 0, 1) := by decide +kernel
theorem dX10_end_1 : decode cX10_end 1 = .ok (.invokevirtual 177, 3) := by decide +kernel
theorem dX10_end_4 : decode cX10_end 4 = .ok (.ifCond .ne 11, 3) := by decide +kernel
theorem dX10_end_7 : decode cX10_end 7 = .ok (.new 85, 3) := by decide +kernel
theorem dX10_end_10 : decode cX10_end 10 = .ok (.dup, 1) := by decide +kernel
theorem dX10_end_11 : decode cX10_end 11 = .ok (.invokespecial 87, 3) := by decide +kernel
theorem dX10_end_14 : decode cX10_end 14 = .ok (.athrow, 1) := by decide +kernel
theorem dX10_end_15 : decode cX10_end 15 = .ok (.aload_n 0, 1) := by decide +kernel
theorem dX10_end_16 : decode cX10_end 16 = .ok (.invokevirtual 180, 3) := by decide +kernel
theorem dX10_end_19 : decode cX10_end 19 = .ok (.aload_n 0, 1) := by decide +kernel
theorem dX10_end_20 : decode cX10_end 20 = .ok (.getfield 61, 3) := by decide +kernel
theorem dX10_end_23 : decode cX10_end 23 = .ok (.ireturn, 1) := by decide +kernel
theorem dX10_draw_0 : decode cX10_draw 0 = .ok (.aload_n 0, 1) := by decide +kernel
theorem dX10_draw_1 : decode cX10_draw 1 = .ok (.invokevirtual 183, 3) := by decide +kernel
theorem dX10_draw_4 : decode cX10_draw 4 = .ok (.aload_n 0, 1) := by decide +kernel
theorem dX10_draw_5 : decode cX10_draw 5 = .ok (.bipush 6, 2) := by decide +kernel
theorem dX10_draw_7 : decode cX10_draw 7 = .ok (.invokevirtual 186, 3) := by decide +kernel
theorem dX10_draw_10 : decode cX10_draw 10 = .ok (.ireturn, 1) := by decide +kernel
theorem dX10_tick_0 : decode cX10_tick 0 = .ok (.iload_n 1, 1) := by decide +kernel
theorem dX10_tick_1 : decode cX10_tick 1 = .ok (.iconst 1, 1) := by decide +kernel
theorem dX10_tick_2 : decode cX10_tick 2 = .ok (.sipush 999, 3) := by decide +kernel
theorem dX10_tick_5 : decode cX10_tick 5 = .ok (.invokestatic 74, 3) := by decide +kernel
theorem dX10_tick_8 : decode cX10_tick 8 = .ok (.ifCond .ne 11, 3) := by decide +kernel
theorem dX10_tick_11 : decode cX10_tick 11 = .ok (.new 78, 3) := by decide +kernel
theorem dX10_tick_14 : decode cX10_tick 14 = .ok (.dup, 1) := by decide +kernel
theorem dX10_tick_15 : decode cX10_tick 15 = .ok (.invokespecial 80, 3) := by decide +kernel
theorem dX10_tick_18 : decode cX10_tick 18 = .ok (.athrow, 1) := by decide +kernel
theorem dX10_tick_19 : decode cX10_tick 19 = .ok (.aload_n 0, 1) := by decide +kernel
theorem dX10_tick_20 : decode cX10_tick 20 = .ok (.invokevirtual 183, 3) := by decide +kernel
theorem dX10_tick_23 : decode cX10_tick 23 = .ok (.iconst 0, 1) := by decide +kernel
theorem dX10_tick_24 : decode cX10_tick 24 = .ok (.aload_n 0, 1) := by decide +kernel
theorem dX10_tick_25 : decode cX10_tick 25 = .ok (.getfield 29, 3) := by decide +kernel
theorem dX10_tick_28 : decode cX10_tick 28 = .ok (.getfield 189, 3) := by decide +kernel
theorem dX10_tick_31 : decode cX10_tick 31 = .ok (.aload_n 0, 1) := by decide +kernel
theorem dX10_tick_32 : decode cX10_tick 32 = .ok (.getfield 61, 3) := by decide +kernel
theorem dX10_tick_35 : decode cX10_tick 35 = .ok (.invokestatic 193, 3) := by decide +kernel
theorem dX10_tick_38 : decode cX10_tick 38 = .ok (.iload_n 1, 1) := by decide +kernel
theorem dX10_tick_39 : decode cX10_tick 39 = .ok (.isub, 1) := by decide +kernel
theorem dX10_tick_40 : decode cX10_tick 40 = .ok (.invokestatic 197, 3) := by decide +kernel
theorem dX10_tick_43 : decode cX10_tick 43 = .ok (.istore_n 2, 1) := by decide +kernel
theorem dX10_tick_44 : decode cX10_tick 44 = .ok (.aload_n 0, 1) := by decide +kernel
theorem dX10_tick_45 : decode cX10_tick 45 = .ok (.getfield 29, 3) := by decide +kernel
theorem dX10_tick_48 : decode cX10_tick 48 = .ok (.getfield 189, 3) := by decide +kernel
theorem dX10_tick_51 : decode cX10_tick 51 = .ok (.aload_n 0, 1) := by decide +kernel
theorem dX10_tick_52 : decode cX10_tick 52 = .ok (.getfield 61, 3) := by decide +kernel
theorem dX10_tick_55 : decode cX10_tick 55 = .ok (.iload_n 2, 1) := by decide +kernel
theorem dX10_tick_56 : decode cX10_tick 56 = .ok (.invokestatic 202, 3) := by decide +kernel
theorem dX10_tick_59 : decode cX10_tick 59 = .ok (.iload_n 2, 1) := by decide +kernel
theorem dX10_tick_60 : decode cX10_tick 60 = .ok (.ifCond .ne 10, 3) := by decide +kernel
theorem dX10_tick_63 : decode cX10_tick 63 = .ok (.aload_n 0, 1) := by decide +kernel
theorem dX10_tick_64 : decode cX10_tick 64 = .ok (.bipush 7, 2) := by decide +kernel
theorem dX10_tick_66 : decode cX10_tick 66 = .ok (.invokevirtual 186, 3) := by decide +kernel
theorem dX10_tick_69 : decode cX10_tick 69 = .ok (.pop, 1) := by decide +kernel
theorem dX10_tick_70 : decode cX10_tick 70 = .ok (.iload_n 2, 1) := by decide +kernel
theorem dX10_tick_71 : decode cX10_tick 71 = .ok (.ireturn, 1) := by decide +kernel
theorem dX10_auto_0 : decode cX10_auto 0 = .ok (.aload_n 0, 1) := by decide +kernel
theorem dX10_auto_1 : decode cX10_auto 1 = .ok (.invokevirtual 183, 3) := by decide +kernel
theorem dX10_auto_4 : decode cX10_auto 4 = .ok (.aload_n 0, 1) := by decide +kernel
theorem dX10_auto_5 : decode cX10_auto 5 = .ok (.getfield 29, 3) := by decide +kernel
theorem dX10_auto_8 : decode cX10_auto 8 = .ok (.getfield 206, 3) := by decide +kernel
theorem dX10_auto_11 : decode cX10_auto 11 = .ok (.aload_n 0, 1) := by decide +kernel
theorem dX10_auto_12 : decode cX10_auto 12 = .ok (.getfield 61, 3) := by decide +kernel
theorem dX10_auto_15 : decode cX10_auto 15 = .ok (.invokestatic 193, 3) := by decide +kernel
theorem dX10_auto_18 : decode cX10_auto 18 = .ok (.istore_n 1, 1) := by decide +kernel
theorem dX10_auto_19 : decode cX10_auto 19 = .ok (.iload_n 1, 1) := by decide +kernel
theorem dX10_auto_20 : decode cX10_auto 20 = .ok (.ifCond .eq 13, 3) := by decide +kernel
theorem dX10_auto_23 : decode cX10_auto 23 = .ok (.aload_n 0, 1) := by decide +kernel
theorem dX10_auto_24 : decode cX10_auto 24 = .ok (.getfield 19, 3) := by decide +kernel
theorem dX10_auto_27 : decode cX10_auto 27 = .ok (.getfield 174, 3) := by decide +kernel
theorem dX10_auto_30 : decode cX10_auto 30 = .ok (.ifCond .le 11, 3) := by decide +kernel
theorem dX10_auto_33 : decode cX10_auto 33 = .ok (.new 85, 3) := by decide +kernel
theorem dX10_auto_36 : decode cX10_auto 36 = .ok (.dup, 1) := by decide +kernel
theorem dX10_auto_37 : decode cX10_auto 37 = .ok (.invokespecial 87, 3) := by decide +kernel
theorem dX10_auto_40 : decode cX10_auto 40 = .ok (.athrow, 1) := by decide +kernel
theorem dX10_auto_41 : decode cX10_auto 41 = .ok (.iload_n 1, 1) := by decide +kernel
theorem dX10_auto_42 : decode cX10_auto 42 = .ok (.iconst 3, 1) := by decide +kernel
theorem dX10_auto_43 : decode cX10_auto 43 = .ok (.if_icmp .ne 19, 3) := by decide +kernel
theorem dX10_auto_46 : decode cX10_auto 46 = .ok (.aload_n 0, 1) := by decide +kernel
theorem dX10_auto_47 : decode cX10_auto 47 = .ok (.aload_n 0, 1) := by decide +kernel
theorem dX10_auto_48 : decode cX10_auto 48 = .ok (.getfield 61, 3) := by decide +kernel
theorem dX10_auto_51 : decode cX10_auto 51 = .ok (.invokevirtual 209, 3) := by decide +kernel
theorem dX10_auto_54 : decode cX10_auto 54 = .ok (.ifCond .eq 8, 3) := by decide +kernel
theorem dX10_auto_57 : decode cX10_auto 57 = .ok (.aload_n 0, 1) := by decide +kernel
theorem dX10_auto_58 : decode cX10_auto 58 = .ok (.invokevirtual 212, 3) := by decide +kernel
theorem dX10_auto_61 : decode cX10_auto 61 = .ok (.ireturn, 1) := by decide +kernel
theorem dX10_auto_62 : decode cX10_auto 62 = .ok (.aload_n 0, 1) := by decide +kernel
theorem dX10_auto_63 : decode cX10_auto 63 = .ok (.iload_n 1, 1) := by decide +kernel
theorem dX10_auto_64 : decode cX10_auto 64 = .ok (.invokevirtual 215, 3) := by decide +kernel
theorem dX10_auto_67 : decode cX10_auto 67 = .ok (.ireturn, 1) := by decide +kernel
theorem dX10_type_0 : decode cX10_type 0 = .ok (.iload_n 1, 1) := by decide +kernel
theorem dX10_type_1 : decode cX10_type 1 = .ok (.bipush 97, 2) := by decide +kernel
theorem dX10_type_3 : decode cX10_type 3 = .ok (.bipush 122, 2) := by decide +kernel
theorem dX10_type_5 : decode cX10_type 5 = .ok (.invokestatic 74, 3) := by decide +kernel
theorem dX10_type_8 : decode cX10_type 8 = .ok (.ifCond .ne 22, 3) := by decide +kernel
theorem dX10_type_11 : decode cX10_type 11 = .ok (.iload_n 1, 1) := by decide +kernel
theorem dX10_type_12 : decode cX10_type 12 = .ok (.bipush 48, 2) := by decide +kernel
theorem dX10_type_14 : decode cX10_type 14 = .ok (.bipush 57, 2) := by decide +kernel
theorem dX10_type_16 : decode cX10_type 16 = .ok (.invokestatic 74, 3) := by decide +kernel
theorem dX10_type_19 : decode cX10_type 19 = .ok (.ifCond .ne 11, 3) := by decide +kernel
theorem dX10_type_22 : decode cX10_type 22 = .ok (.new 78, 3) := by decide +kernel
theorem dX10_type_25 : decode cX10_type 25 = .ok (.dup, 1) := by decide +kernel
theorem dX10_type_26 : decode cX10_type 26 = .ok (.invokespecial 80, 3) := by decide +kernel
theorem dX10_type_29 : decode cX10_type 29 = .ok (.athrow, 1) := by decide +kernel
theorem dX10_type_30 : decode cX10_type 30 = .ok (.aload_n 0, 1) := by decide +kernel
theorem dX10_type_31 : decode cX10_type 31 = .ok (.getfield 36, 3) := by decide +kernel
theorem dX10_type_34 : decode cX10_type 34 = .ok (.iload_n 1, 1) := by decide +kernel
theorem dX10_type_35 : decode cX10_type 35 = .ok (.invokevirtual 218, 3) := by decide +kernel
theorem dX10_type_38 : decode cX10_type 38 = .ok (.ifCond .ne 11, 3) := by decide +kernel
theorem dX10_type_41 : decode cX10_type 41 = .ok (.new 85, 3) := by decide +kernel
theorem dX10_type_44 : decode cX10_type 44 = .ok (.dup, 1) := by decide +kernel
theorem dX10_type_45 : decode cX10_type 45 = .ok (.invokespecial 87, 3) := by decide +kernel
theorem dX10_type_48 : decode cX10_type 48 = .ok (.athrow, 1) := by decide +kernel
theorem dX10_type_49 : decode cX10_type 49 = .ok (.aload_n 0, 1) := by decide +kernel
theorem dX10_type_50 : decode cX10_type 50 = .ok (.getfield 36, 3) := by decide +kernel
theorem dX10_type_53 : decode cX10_type 53 = .ok (.getfield 222, 3) := by decide +kernel
theorem dX10_type_56 : decode cX10_type 56 = .ok (.ireturn, 1) := by decide +kernel
theorem dX10_wipe_0 : decode cX10_wipe 0 = .ok (.aload_n 0, 1) := by decide +kernel
theorem dX10_wipe_1 : decode cX10_wipe 1 = .ok (.getfield 36, 3) := by decide +kernel
theorem dX10_wipe_4 : decode cX10_wipe 4 = .ok (.getfield 222, 3) := by decide +kernel
theorem dX10_wipe_7 : decode cX10_wipe 7 = .ok (.istore_n 1, 1) := by decide +kernel
theorem dX10_wipe_8 : decode cX10_wipe 8 = .ok (.aload_n 0, 1) := by decide +kernel
theorem dX10_wipe_9 : decode cX10_wipe 9 = .ok (.getfield 36, 3) := by decide +kernel
theorem dX10_wipe_12 : decode cX10_wipe 12 = .ok (.iconst 0, 1) := by decide +kernel
theorem dX10_wipe_13 : decode cX10_wipe 13 = .ok (.putfield 222, 3) := by decide +kernel
theorem dX10_wipe_16 : decode cX10_wipe 16 = .ok (.iload_n 1, 1) := by decide +kernel
theorem dX10_wipe_17 : decode cX10_wipe 17 = .ok (.ireturn, 1) := by decide +kernel
theorem dX10_play_0 : decode cX10_play 0 = .ok (.aload_n 0, 1) := by decide +kernel
theorem dX10_play_1 : decode cX10_play 1 = .ok (.getfield 36, 3) := by decide +kernel
theorem dX10_play_4 : decode cX10_play 4 = .ok (.aload_n 0, 1) := by decide +kernel
theorem dX10_play_5 : decode cX10_play 5 = .ok (.getfield 12, 3) := by decide +kernel
theorem dX10_play_8 : decode cX10_play 8 = .ok (.invokevirtual 225, 3) := by decide +kernel
theorem dX10_play_11 : decode cX10_play 11 = .ok (.ifCond .ne 11, 3) := by decide +kernel
theorem dX10_play_14 : decode cX10_play 14 = .ok (.new 78, 3) := by decide +kernel
theorem dX10_play_17 : decode cX10_play 17 = .ok (.dup, 1) := by decide +kernel
theorem dX10_play_18 : decode cX10_play 18 = .ok (.invokespecial 80, 3) := by decide +kernel
theorem dX10_play_21 : decode cX10_play 21 = .ok (.athrow, 1) := by decide +kernel
theorem dX10_play_22 : decode cX10_play 22 = .ok (.aload_n 0, 1) := by decide +kernel
theorem dX10_play_23 : decode cX10_play 23 = .ok (.invokevirtual 183, 3) := by decide +kernel
theorem dX10_play_26 : decode cX10_play 26 = .ok (.iconst 0, 1) := by decide +kernel
theorem dX10_play_27 : decode cX10_play 27 = .ok (.istore_n 1, 1) := by decide +kernel
theorem dX10_play_28 : decode cX10_play 28 = .ok (.iload_n 1, 1) := by decide +kernel
theorem dX10_play_29 : decode cX10_play 29 = .ok (.aload_n 0, 1) := by decide +kernel
theorem dX10_play_30 : decode cX10_play 30 = .ok (.getfield 36, 3) := by decide +kernel
theorem dX10_play_33 : decode cX10_play 33 = .ok (.getfield 229, 3) := by decide +kernel
theorem dX10_play_36 : decode cX10_play 36 = .ok (.if_icmp .ge 38, 3) := by decide +kernel
theorem dX10_play_39 : decode cX10_play 39 = .ok (.aload_n 0, 1) := by decide +kernel
theorem dX10_play_40 : decode cX10_play 40 = .ok (.aload_n 0, 1) := by decide +kernel
theorem dX10_play_41 : decode cX10_play 41 = .ok (.getfield 36, 3) := by decide +kernel
theorem dX10_play_44 : decode cX10_play 44 = .ok (.getfield 232, 3) := by decide +kernel
theorem dX10_play_47 : decode cX10_play 47 = .ok (.iload_n 1, 1) := by decide +kernel
theorem dX10_play_48 : decode cX10_play 48 = .ok (.invokestatic 193, 3) := by decide +kernel
theorem dX10_play_51 : decode cX10_play 51 = .ok (.aload_n 0, 1) := by decide +kernel
theorem dX10_play_52 : decode cX10_play 52 = .ok (.getfield 36, 3) := by decide +kernel
theorem dX10_play_55 : decode cX10_play 55 = .ok (.getfield 235, 3) := by decide +kernel
theorem dX10_play_58 : decode cX10_play 58 = .ok (.iload_n 1, 1) := by decide +kernel
theorem dX10_play_59 : decode cX10_play 59 = .ok (.invokestatic 193, 3) := by decide +kernel
theorem dX10_play_62 : decode cX10_play 62 = .ok (.invokevirtual 238, 3) := by decide +kernel
theorem dX10_play_65 : decode cX10_play 65 = .ok (.ifCond .eq 9, 3) := by decide +kernel
theorem dX10_play_68 : decode cX10_play 68 = .ok (.iinc 1 1, 3) := by decide +kernel
theorem dX10_play_71 : decode cX10_play 71 = .ok (.goto (-43), 3) := by decide +kernel
theorem dX10_play_74 : decode cX10_play 74 = .ok (.aload_n 0, 1) := by decide +kernel
theorem dX10_play_75 : decode cX10_play 75 = .ok (.getfield 36, 3) := by decide +kernel
theorem dX10_play_78 : decode cX10_play 78 = .ok (.iconst 0, 1) := by decide +kernel
theorem dX10_play_79 : decode cX10_play 79 = .ok (.putfield 222, 3) := by decide +kernel
theorem dX10_play_82 : decode cX10_play 82 = .ok (.iload_n 1, 1) := by decide +kernel
theorem dX10_play_83 : decode cX10_play 83 = .ok (.ireturn, 1) := by decide +kernel
theorem dX10_isWhole_0 : decode cX10_isWhole 0 = .ok (.aload_n 0, 1) := by decide +kernel
theorem dX10_isWhole_1 : decode cX10_isWhole 1 = .ok (.invokevirtual 242, 3) := by decide +kernel
theorem dX10_isWhole_4 : decode cX10_isWhole 4 = .ok (.aload_n 0, 1) := by decide +kernel
theorem dX10_isWhole_5 : decode cX10_isWhole 5 = .ok (.getfield 50, 3) := by decide +kernel
theorem dX10_isWhole_8 : decode cX10_isWhole 8 = .ok (.aload_n 0, 1) := by decide +kernel
theorem dX10_isWhole_9 : decode cX10_isWhole 9 = .ok (.getfield 12, 3) := by decide +kernel
theorem dX10_isWhole_12 : decode cX10_isWhole 12 = .ok (.iconst 1, 1) := by decide +kernel
theorem dX10_isWhole_13 : decode cX10_isWhole 13 = .ok (.aload_n 0, 1) := by decide +kernel
theorem dX10_isWhole_14 : decode cX10_isWhole 14 = .ok (.getfield 12, 3) := by decide +kernel
theorem dX10_isWhole_17 : decode cX10_isWhole 17 = .ok (.getfield 88, 3) := by decide +kernel
theorem dX10_isWhole_20 : decode cX10_isWhole 20 = .ok (.iconst 1, 1) := by decide +kernel
theorem dX10_isWhole_21 : decode cX10_isWhole 21 = .ok (.iadd, 1) := by decide +kernel
theorem dX10_isWhole_22 : decode cX10_isWhole 22 = .ok (.invokevirtual 245, 3) := by decide +kernel
theorem dX10_isWhole_25 : decode cX10_isWhole 25 = .ok (.ifCond .le 7, 3) := by decide +kernel
theorem dX10_isWhole_28 : decode cX10_isWhole 28 = .ok (.iconst 1, 1) := by decide +kernel
theorem dX10_isWhole_29 : decode cX10_isWhole 29 = .ok (.goto 4, 3) := by decide +kernel
theorem dX10_isWhole_32 : decode cX10_isWhole 32 = .ok (.iconst 0, 1) := by decide +kernel
theorem dX10_isWhole_33 : decode cX10_isWhole 33 = .ok (.ireturn, 1) := by decide +kernel
theorem dX10_cuts_0 : decode cX10_cuts 0 = .ok (.iload_n 1, 1) := by decide +kernel
theorem dX10_cuts_1 : decode cX10_cuts 1 = .ok (.iconst 0, 1) := by decide +kernel
theorem dX10_cuts_2 : decode cX10_cuts 2 = .ok (.iconst 2, 1) := by decide +kernel
theorem dX10_cuts_3 : decode cX10_cuts 3 = .ok (.invokestatic 74, 3) := by decide +kernel
theorem dX10_cuts_6 : decode cX10_cuts 6 = .ok (.ifCond .ne 11, 3) := by decide +kernel
theorem dX10_cuts_9 : decode cX10_cuts 9 = .ok (.new 78, 3) := by decide +kernel
theorem dX10_cuts_12 : decode cX10_cuts 12 = .ok (.dup, 1) := by decide +kernel
theorem dX10_cuts_13 : decode cX10_cuts 13 = .ok (.invokespecial 80, 3) := by decide +kernel
theorem dX10_cuts_16 : decode cX10_cuts 16 = .ok (.athrow, 1) := by decide +kernel
theorem dX10_cuts_17 : decode cX10_cuts 17 = .ok (.aload_n 0, 1) := by decide +kernel
theorem dX10_cuts_18 : decode cX10_cuts 18 = .ok (.invokevirtual 249, 3) := by decide +kernel
theorem dX10_cuts_21 : decode cX10_cuts 21 = .ok (.iload_n 1, 1) := by decide +kernel
theorem dX10_cuts_22 : decode cX10_cuts 22 = .ok (.ifCond .ne 10, 3) := by decide +kernel
theorem dX10_cuts_25 : decode cX10_cuts 25 = .ok (.aload_n 0, 1) := by decide +kernel
theorem dX10_cuts_26 : decode cX10_cuts 26 = .ok (.getfield 252, 3) := by decide +kernel
theorem dX10_cuts_29 : decode cX10_cuts 29 = .ok (.goto 19, 3) := by decide +kernel
theorem dX10_cuts_32 : decode cX10_cuts 32 = .ok (.iload_n 1, 1) := by decide +kernel
theorem dX10_cuts_33 : decode cX10_cuts 33 = .ok (.iconst 1, 1) := by decide +kernel
theorem dX10_cuts_34 : decode cX10_cuts 34 = .ok (.if_icmp .ne 10, 3) := by decide +kernel
theorem dX10_cuts_37 : decode cX10_cuts 37 = .ok (.aload_n 0, 1) := by decide +kernel
theorem dX10_cuts_38 : decode cX10_cuts 38 = .ok (.getfield 255, 3) := by decide +kernel
theorem dX10_cuts_41 : decode cX10_cuts 41 = .ok (.goto 7, 3) := by decide +kernel
theorem dX10_cuts_44 : decode cX10_cuts 44 = .ok (.aload_n 0, 1) := by decide +kernel
theorem dX10_cuts_45 : decode cX10_cuts 45 = .ok (.getfield 258, 3) := by decide +kernel
theorem dX10_cuts_48 : decode cX10_cuts 48 = .ok (.ireturn, 1) := by decide +kernel
theorem dX10_cutsAnew_0 : decode cX10_cutsAnew 0 = .ok (.aload_n 0, 1) := by decide +kernel
theorem dX10_cutsAnew_1 : decode cX10_cutsAnew 1 = .ok (.getfield 19, 3) := by decide +kernel
theorem dX10_cutsAnew_4 : decode cX10_cutsAnew 4 = .ok (.getfield 261, 3) := by decide +kernel
theorem dX10_cutsAnew_7 : decode cX10_cutsAnew 7 = .ok (.bipush 14, 2) := by decide +kernel
theorem dX10_cutsAnew_9 : decode cX10_cutsAnew 9 = .ok (.if_icmp .le 11, 3) := by decide +kernel
theorem dX10_cutsAnew_12 : decode cX10_cutsAnew 12 = .ok (.new 85, 3) := by decide +kernel
theorem dX10_cutsAnew_15 : decode cX10_cutsAnew 15 = .ok (.dup, 1) := by decide +kernel
theorem dX10_cutsAnew_16 : decode cX10_cutsAnew 16 = .ok (.invokespecial 87, 3) := by decide +kernel
theorem dX10_cutsAnew_19 : decode cX10_cutsAnew 19 = .ok (.athrow, 1) := by decide +kernel
theorem dX10_cutsAnew_20 : decode cX10_cutsAnew 20 = .ok (.aload_n 0, 1) := by decide +kernel
theorem dX10_cutsAnew_21 : decode cX10_cutsAnew 21 = .ok (.invokevirtual 242, 3) := by decide +kernel
theorem dX10_cutsAnew_24 : decode cX10_cutsAnew 24 = .ok (.aload_n 0, 1) := by decide +kernel
theorem dX10_cutsAnew_25 : decode cX10_cutsAnew 25 = .ok (.getfield 50, 3) := by decide +kernel
theorem dX10_cutsAnew_28 : decode cX10_cutsAnew 28 = .ok (.getfield 264, 3) := by decide +kernel
theorem dX10_cutsAnew_31 : decode cX10_cutsAnew 31 = .ok (.iconst 0, 1) := by decide +kernel
theorem dX10_cutsAnew_32 : decode cX10_cutsAnew 32 = .ok (.iconst 0, 1) := by decide +kernel
theorem dX10_cutsAnew_33 : decode cX10_cutsAnew 33 = .ok (.aload_n 0, 1) := by decide +kernel
theorem dX10_cutsAnew_34 : decode cX10_cutsAnew 34 = .ok (.getfield 12, 3) := by decide +kernel
theorem dX10_cutsAnew_37 : decode cX10_cutsAnew 37 = .ok (.getfield 91, 3) := by decide +kernel
theorem dX10_cutsAnew_40 : decode cX10_cutsAnew 40 = .ok (.iconst 0, 1) := by decide +kernel
theorem dX10_cutsAnew_41 : decode cX10_cutsAnew 41 = .ok (.invokestatic 267, 3) := by decide +kernel
theorem dX10_cutsAnew_44 : decode cX10_cutsAnew 44 = .ok (.ldc_w 272, 3) := by decide +kernel
theorem dX10_cutsAnew_47 : decode cX10_cutsAnew 47 = .ok (.irem, 1) := by decide +kernel
theorem dX10_cutsAnew_48 : decode cX10_cutsAnew 48 = .ok (.ireturn, 1) := by decide +kernel
theorem dX10_states_0 : decode cX10_states 0 = .ok (.iload_n 1, 1) := by decide +kernel
theorem dX10_states_1 : decode cX10_states 1 = .ok (.iconst 1, 1) := by decide +kernel
theorem dX10_states_2 : decode cX10_states 2 = .ok (.aload_n 0, 1) := by decide +kernel
theorem dX10_states_3 : decode cX10_states 3 = .ok (.getfield 12, 3) := by decide +kernel
theorem dX10_states_6 : decode cX10_states 6 = .ok (.getfield 88, 3) := by decide +kernel
theorem dX10_states_9 : decode cX10_states 9 = .ok (.invokestatic 74, 3) := by decide +kernel
theorem dX10_states_12 : decode cX10_states 12 = .ok (.ifCond .ne 11, 3) := by decide +kernel
theorem dX10_states_15 : decode cX10_states 15 = .ok (.new 78, 3) := by decide +kernel
theorem dX10_states_18 : decode cX10_states 18 = .ok (.dup, 1) := by decide +kernel
theorem dX10_states_19 : decode cX10_states 19 = .ok (.invokespecial 80, 3) := by decide +kernel
theorem dX10_states_22 : decode cX10_states 22 = .ok (.athrow, 1) := by decide +kernel
theorem dX10_states_23 : decode cX10_states 23 = .ok (.aload_n 0, 1) := by decide +kernel
theorem dX10_states_24 : decode cX10_states 24 = .ok (.invokevirtual 242, 3) := by decide +kernel
theorem dX10_states_27 : decode cX10_states 27 = .ok (.aload_n 0, 1) := by decide +kernel
theorem dX10_states_28 : decode cX10_states 28 = .ok (.getfield 50, 3) := by decide +kernel
theorem dX10_states_31 : decode cX10_states 31 = .ok (.aload_n 0, 1) := by decide +kernel
theorem dX10_states_32 : decode cX10_states 32 = .ok (.getfield 12, 3) := by decide +kernel
theorem dX10_states_35 : decode cX10_states 35 = .ok (.iconst 0, 1) := by decide +kernel
theorem dX10_states_36 : decode cX10_states 36 = .ok (.iload_n 1, 1) := by decide +kernel
theorem dX10_states_37 : decode cX10_states 37 = .ok (.invokevirtual 245, 3) := by decide +kernel
theorem dX10_states_40 : decode cX10_states 40 = .ok (.ireturn, 1) := by decide +kernel
theorem dX10_best_0 : decode cX10_best 0 = .ok (.aload_n 0, 1) := by decide +kernel
theorem dX10_best_1 : decode cX10_best 1 = .ok (.iload_n 1, 1) := by decide +kernel
theorem dX10_best_2 : decode cX10_best 2 = .ok (.invokevirtual 273, 3) := by decide +kernel
theorem dX10_best_5 : decode cX10_best 5 = .ok (.iload_n 2, 1) := by decide +kernel
theorem dX10_best_6 : decode cX10_best 6 = .ok (.iconst 0, 1) := by decide +kernel
theorem dX10_best_7 : decode cX10_best 7 = .ok (.iconst 1, 1) := by decide +kernel
theorem dX10_best_8 : decode cX10_best 8 = .ok (.invokestatic 74, 3) := by decide +kernel
theorem dX10_best_11 : decode cX10_best 11 = .ok (.ifCond .ne 11, 3) := by decide +kernel
theorem dX10_best_14 : decode cX10_best 14 = .ok (.new 78, 3) := by decide +kernel
theorem dX10_best_17 : decode cX10_best 17 = .ok (.dup, 1) := by decide +kernel
theorem dX10_best_18 : decode cX10_best 18 = .ok (.invokespecial 80, 3) := by decide +kernel
theorem dX10_best_21 : decode cX10_best 21 = .ok (.athrow, 1) := by decide +kernel
theorem dX10_best_22 : decode cX10_best 22 = .ok (.aload_n 0, 1) := by decide +kernel
theorem dX10_best_23 : decode cX10_best 23 = .ok (.iload_n 1, 1) := by decide +kernel
theorem dX10_best_24 : decode cX10_best 24 = .ok (.invokevirtual 276, 3) := by decide +kernel
theorem dX10_best_27 : decode cX10_best 27 = .ok (.aload_n 0, 1) := by decide +kernel
theorem dX10_best_28 : decode cX10_best 28 = .ok (.getfield 57, 3) := by decide +kernel
theorem dX10_best_31 : decode cX10_best 31 = .ok (.getfield 279, 3) := by decide +kernel
theorem dX10_best_34 : decode cX10_best 34 = .ok (.ifCond .ne 5, 3) := by decide +kernel
theorem dX10_best_37 : decode cX10_best 37 = .ok (.iconst (-1), 1) := by decide +kernel
theorem dX10_best_38 : decode cX10_best 38 = .ok (.ireturn, 1) := by decide +kernel
theorem dX10_best_39 : decode cX10_best 39 = .ok (.iload_n 2, 1) := by decide +kernel
theorem dX10_best_40 : decode cX10_best 40 = .ok (.ifCond .ne 13, 3) := by decide +kernel
theorem dX10_best_43 : decode cX10_best 43 = .ok (.aload_n 0, 1) := by decide +kernel
theorem dX10_best_44 : decode cX10_best 44 = .ok (.getfield 57, 3) := by decide +kernel
theorem dX10_best_47 : decode cX10_best 47 = .ok (.getfield 283, 3) := by decide +kernel
theorem dX10_best_50 : decode cX10_best 50 = .ok (.goto 10, 3) := by decide +kernel
theorem dX10_best_53 : decode cX10_best 53 = .ok (.aload_n 0, 1) := by decide +kernel
theorem dX10_best_54 : decode cX10_best 54 = .ok (.getfield 57, 3) := by decide +kernel
theorem dX10_best_57 : decode cX10_best 57 = .ok (.getfield 284, 3) := by decide +kernel
theorem dX10_best_60 : decode cX10_best 60 = .ok (.ireturn, 1) := by decide +kernel
theorem dX10_plan_0 : decode cX10_plan 0 = .ok (.aload_n 0, 1) := by decide +kernel
theorem dX10_plan_1 : decode cX10_plan 1 = .ok (.iload_n 1, 1) := by decide +kernel
theorem dX10_plan_2 : decode cX10_plan 2 = .ok (.invokevirtual 273, 3) := by decide +kernel
theorem dX10_plan_5 : decode cX10_plan 5 = .ok (.iload_n 2, 1) := by decide +kernel
theorem dX10_plan_6 : decode cX10_plan 6 = .ok (.ifCond .ge 11, 3) := by decide +kernel
theorem dX10_plan_9 : decode cX10_plan 9 = .ok (.new 78, 3) := by decide +kernel
theorem dX10_plan_12 : decode cX10_plan 12 = .ok (.dup, 1) := by decide +kernel
theorem dX10_plan_13 : decode cX10_plan 13 = .ok (.invokespecial 80, 3) := by decide +kernel
theorem dX10_plan_16 : decode cX10_plan 16 = .ok (.athrow, 1) := by decide +kernel
theorem dX10_plan_17 : decode cX10_plan 17 = .ok (.aload_n 0, 1) := by decide +kernel
theorem dX10_plan_18 : decode cX10_plan 18 = .ok (.iload_n 1, 1) := by decide +kernel
theorem dX10_plan_19 : decode cX10_plan 19 = .ok (.invokevirtual 276, 3) := by decide +kernel
theorem dX10_plan_22 : decode cX10_plan 22 = .ok (.aload_n 0, 1) := by decide +kernel
theorem dX10_plan_23 : decode cX10_plan 23 = .ok (.getfield 57, 3) := by decide +kernel
theorem dX10_plan_26 : decode cX10_plan 26 = .ok (.iload_n 2, 1) := by decide +kernel
theorem dX10_plan_27 : decode cX10_plan 27 = .ok (.invokevirtual 287, 3) := by decide +kernel
theorem dX10_plan_30 : decode cX10_plan 30 = .ok (.ireturn, 1) := by decide +kernel
theorem dX10_alone_0 : decode cX10_alone 0 = .ok (.aload_n 0, 1) := by decide +kernel
theorem dX10_alone_1 : decode cX10_alone 1 = .ok (.iload_n 1, 1) := by decide +kernel
theorem dX10_alone_2 : decode cX10_alone 2 = .ok (.invokevirtual 136, 3) := by decide +kernel
theorem dX10_alone_5 : decode cX10_alone 5 = .ok (.aload_n 0, 1) := by decide +kernel
theorem dX10_alone_6 : decode cX10_alone 6 = .ok (.invokevirtual 290, 3) := by decide +kernel
theorem dX10_alone_9 : decode cX10_alone 9 = .ok (.iload_n 1, 1) := by decide +kernel
theorem dX10_alone_10 : decode cX10_alone 10 = .ok (.invokestatic 294, 3) := by decide +kernel
theorem dX10_alone_13 : decode cX10_alone 13 = .ok (.ireturn, 1) := by decide +kernel
theorem dX10_chance_0 : decode cX10_chance 0 = .ok (.aload_n 0, 1) := by decide +kernel
theorem dX10_chance_1 : decode cX10_chance 1 = .ok (.iload_n 1, 1) := by decide +kernel
theorem dX10_chance_2 : decode cX10_chance 2 = .ok (.invokevirtual 273, 3) := by decide +kernel
theorem dX10_chance_5 : decode cX10_chance 5 = .ok (.aload_n 0, 1) := by decide +kernel
theorem dX10_chance_6 : decode cX10_chance 6 = .ok (.iload_n 2, 1) := by decide +kernel
theorem dX10_chance_7 : decode cX10_chance 7 = .ok (.invokevirtual 273, 3) := by decide +kernel
theorem dX10_chance_10 : decode cX10_chance 10 = .ok (.iload_n 1, 1) := by decide +kernel
theorem dX10_chance_11 : decode cX10_chance 11 = .ok (.iload_n 2, 1) := by decide +kernel
theorem dX10_chance_12 : decode cX10_chance 12 = .ok (.if_icmp .ne 11, 3) := by decide +kernel
theorem dX10_chance_15 : decode cX10_chance 15 = .ok (.new 78, 3) := by decide +kernel
theorem dX10_chance_18 : decode cX10_chance 18 = .ok (.dup, 1) := by decide +kernel
theorem dX10_chance_19 : decode cX10_chance 19 = .ok (.invokespecial 80, 3) := by decide +kernel
theorem dX10_chance_22 : decode cX10_chance 22 = .ok (.athrow, 1) := by decide +kernel
theorem dX10_chance_23 : decode cX10_chance 23 = .ok (.aload_n 0, 1) := by decide +kernel
theorem dX10_chance_24 : decode cX10_chance 24 = .ok (.iload_n 3, 1) := by decide +kernel
theorem dX10_chance_25 : decode cX10_chance 25 = .ok (.invokevirtual 298, 3) := by decide +kernel
theorem dX10_chance_28 : decode cX10_chance 28 = .ok (.aload_n 0, 1) := by decide +kernel
theorem dX10_chance_29 : decode cX10_chance 29 = .ok (.getfield 19, 3) := by decide +kernel
theorem dX10_chance_32 : decode cX10_chance 32 = .ok (.iload_n 2, 1) := by decide +kernel
theorem dX10_chance_33 : decode cX10_chance 33 = .ok (.invokevirtual 301, 3) := by decide +kernel
theorem dX10_chance_36 : decode cX10_chance 36 = .ok (.istore 4, 2) := by decide +kernel
theorem dX10_chance_38 : decode cX10_chance 38 = .ok (.aload_n 0, 1) := by decide +kernel
theorem dX10_chance_39 : decode cX10_chance 39 = .ok (.getfield 29, 3) := by decide +kernel
theorem dX10_chance_42 : decode cX10_chance 42 = .ok (.iload_n 2, 1) := by decide +kernel
theorem dX10_chance_43 : decode cX10_chance 43 = .ok (.invokevirtual 304, 3) := by decide +kernel
theorem dX10_chance_46 : decode cX10_chance 46 = .ok (.iload_n 3, 1) := by decide +kernel
theorem dX10_chance_47 : decode cX10_chance 47 = .ok (.invokestatic 294, 3) := by decide +kernel
theorem dX10_chance_50 : decode cX10_chance 50 = .ok (.ifCond .eq 21, 3) := by decide +kernel
theorem dX10_chance_53 : decode cX10_chance 53 = .ok (.iload 4, 2) := by decide +kernel
theorem dX10_chance_55 : decode cX10_chance 55 = .ok (.aload_n 0, 1) := by decide +kernel
theorem dX10_chance_56 : decode cX10_chance 56 = .ok (.getfield 29, 3) := by decide +kernel
theorem dX10_chance_59 : decode cX10_chance 59 = .ok (.getfield 308, 3) := by decide +kernel
theorem dX10_chance_62 : decode cX10_chance 62 = .ok (.iload_n 2, 1) := by decide +kernel
theorem dX10_chance_63 : decode cX10_chance 63 = .ok (.invokestatic 193, 3) := by decide +kernel
theorem dX10_chance_66 : decode cX10_chance 66 = .ok (.invokestatic 311, 3) := by decide +kernel
theorem dX10_chance_69 : decode cX10_chance 69 = .ok (.istore 4, 2) := by decide +kernel
theorem dX10_chance_71 : decode cX10_chance 71 = .ok (.aload_n 0, 1) := by decide +kernel
theorem dX10_chance_72 : decode cX10_chance 72 = .ok (.getfield 19, 3) := by decide +kernel
theorem dX10_chance_75 : decode cX10_chance 75 = .ok (.iload_n 1, 1) := by decide +kernel
theorem dX10_chance_76 : decode cX10_chance 76 = .ok (.invokevirtual 314, 3) := by decide +kernel
theorem dX10_chance_79 : decode cX10_chance 79 = .ok (.aload_n 0, 1) := by decide +kernel
theorem dX10_chance_80 : decode cX10_chance 80 = .ok (.getfield 19, 3) := by decide +kernel
theorem dX10_chance_83 : decode cX10_chance 83 = .ok (.iload_n 1, 1) := by decide +kernel
theorem dX10_chance_84 : decode cX10_chance 84 = .ok (.iload_n 3, 1) := by decide +kernel
theorem dX10_chance_85 : decode cX10_chance 85 = .ok (.invokevirtual 317, 3) := by decide +kernel
theorem dX10_chance_88 : decode cX10_chance 88 = .ok (.iload 4, 2) := by decide +kernel
theorem dX10_chance_90 : decode cX10_chance 90 = .ok (.invokestatic 320, 3) := by decide +kernel
theorem dX10_chance_93 : decode cX10_chance 93 = .ok (.ireturn, 1) := by decide +kernel
theorem dX10_passed_0 : decode cX10_passed 0 = .ok (.aload_n 0, 1) := by decide +kernel
theorem dX10_passed_1 : decode cX10_passed 1 = .ok (.iload_n 1, 1) := by decide +kernel
theorem dX10_passed_2 : decode cX10_passed 2 = .ok (.invokevirtual 273, 3) := by decide +kernel
theorem dX10_passed_5 : decode cX10_passed 5 = .ok (.aload_n 0, 1) := by decide +kernel
theorem dX10_passed_6 : decode cX10_passed 6 = .ok (.iload_n 2, 1) := by decide +kernel
theorem dX10_passed_7 : decode cX10_passed 7 = .ok (.invokevirtual 136, 3) := by decide +kernel
theorem dX10_passed_10 : decode cX10_passed 10 = .ok (.aload_n 0, 1) := by decide +kernel
theorem dX10_passed_11 : decode cX10_passed 11 = .ok (.getfield 29, 3) := by decide +kernel
theorem dX10_passed_14 : decode cX10_passed 14 = .ok (.iload_n 1, 1) := by decide +kernel
theorem dX10_passed_15 : decode cX10_passed 15 = .ok (.invokevirtual 304, 3) := by decide +kernel
theorem dX10_passed_18 : decode cX10_passed 18 = .ok (.iload_n 2, 1) := by decide +kernel
theorem dX10_passed_19 : decode cX10_passed 19 = .ok (.invokestatic 294, 3) := by decide +kernel
theorem dX10_passed_22 : decode cX10_passed 22 = .ok (.ireturn, 1) := by decide +kernel
theorem dX10_claim_0 : decode cX10_claim 0 = .ok (.aload_n 0, 1) := by decide +kernel
theorem dX10_claim_1 : decode cX10_claim 1 = .ok (.iload_n 1, 1) := by decide +kernel
theorem dX10_claim_2 : decode cX10_claim 2 = .ok (.invokevirtual 273, 3) := by decide +kernel
theorem dX10_claim_5 : decode cX10_claim 5 = .ok (.aload_n 0, 1) := by decide +kernel
theorem dX10_claim_6 : decode cX10_claim 6 = .ok (.iload_n 2, 1) := by decide +kernel
theorem dX10_claim_7 : decode cX10_claim 7 = .ok (.invokevirtual 136, 3) := by decide +kernel
theorem dX10_claim_10 : decode cX10_claim 10 = .ok (.iload_n 3, 1) := by decide +kernel
theorem dX10_claim_11 : decode cX10_claim 11 = .ok (.iconst 0, 1) := by decide +kernel
theorem dX10_claim_12 : decode cX10_claim 12 = .ok (.iconst 2, 1) := by decide +kernel
theorem dX10_claim_13 : decode cX10_claim 13 = .ok (.invokestatic 74, 3) := by decide +kernel
theorem dX10_claim_16 : decode cX10_claim 16 = .ok (.ifCond .ne 11, 3) := by decide +kernel
theorem dX10_claim_19 : decode cX10_claim 19 = .ok (.new 78, 3) := by decide +kernel
theorem dX10_claim_22 : decode cX10_claim 22 = .ok (.dup, 1) := by decide +kernel
theorem dX10_claim_23 : decode cX10_claim 23 = .ok (.invokespecial 80, 3) := by decide +kernel
theorem dX10_claim_26 : decode cX10_claim 26 = .ok (.athrow, 1) := by decide +kernel
theorem dX10_claim_27 : decode cX10_claim 27 = .ok (.aload_n 0, 1) := by decide +kernel
theorem dX10_claim_28 : decode cX10_claim 28 = .ok (.getfield 29, 3) := by decide +kernel
theorem dX10_claim_31 : decode cX10_claim 31 = .ok (.getfield 324, 3) := by decide +kernel
theorem dX10_claim_34 : decode cX10_claim 34 = .ok (.iload_n 1, 1) := by decide +kernel
theorem dX10_claim_35 : decode cX10_claim 35 = .ok (.bipush 52, 2) := by decide +kernel
theorem dX10_claim_37 : decode cX10_claim 37 = .ok (.imul, 1) := by decide +kernel
theorem dX10_claim_38 : decode cX10_claim 38 = .ok (.iload_n 2, 1) := by decide +kernel
theorem dX10_claim_39 : decode cX10_claim 39 = .ok (.iadd, 1) := by decide +kernel
theorem dX10_claim_40 : decode cX10_claim 40 = .ok (.invokestatic 193, 3) := by decide +kernel
theorem dX10_claim_43 : decode cX10_claim 43 = .ok (.istore 4, 2) := by decide +kernel
theorem dX10_claim_45 : decode cX10_claim 45 = .ok (.aload_n 0, 1) := by decide +kernel
theorem dX10_claim_46 : decode cX10_claim 46 = .ok (.getfield 29, 3) := by decide +kernel
theorem dX10_claim_49 : decode cX10_claim 49 = .ok (.getfield 324, 3) := by decide +kernel
theorem dX10_claim_52 : decode cX10_claim 52 = .ok (.iload_n 1, 1) := by decide +kernel
theorem dX10_claim_53 : decode cX10_claim 53 = .ok (.bipush 52, 2) := by decide +kernel
theorem dX10_claim_55 : decode cX10_claim 55 = .ok (.imul, 1) := by decide +kernel
theorem dX10_claim_56 : decode cX10_claim 56 = .ok (.iload_n 2, 1) := by decide +kernel
theorem dX10_claim_57 : decode cX10_claim 57 = .ok (.iadd, 1) := by decide +kernel
theorem dX10_claim_58 : decode cX10_claim 58 = .ok (.iload_n 3, 1) := by decide +kernel
theorem dX10_claim_59 : decode cX10_claim 59 = .ok (.invokestatic 202, 3) := by decide +kernel
theorem dX10_claim_62 : decode cX10_claim 62 = .ok (.iload 4, 2) := by decide +kernel
theorem dX10_claim_64 : decode cX10_claim 64 = .ok (.ireturn, 1) := by decide +kernel
theorem dX10_copies_0 : decode cX10_copies 0 = .ok (.lconst 0, 1) := by decide +kernel
theorem dX10_copies_1 : decode cX10_copies 1 = .ok (.lstore_n 1, 1) := by decide +kernel
theorem dX10_copies_2 : decode cX10_copies 2 = .ok (.iconst 0, 1) := by decide +kernel
theorem dX10_copies_3 : decode cX10_copies 3 = .ok (.istore_n 3, 1) := by decide +kernel
theorem dX10_copies_4 : decode cX10_copies 4 = .ok (.iload_n 3, 1) := by decide +kernel
theorem dX10_copies_5 : decode cX10_copies 5 = .ok (.bipush 52, 2) := by decide +kernel
theorem dX10_copies_7 : decode cX10_copies 7 = .ok (.if_icmp .ge 39, 3) := by decide +kernel
theorem dX10_copies_10 : decode cX10_copies 10 = .ok (.aload_n 0, 1) := by decide +kernel
theorem dX10_copies_11 : decode cX10_copies 11 = .ok (.getfield 29, 3) := by decide +kernel
theorem dX10_copies_14 : decode cX10_copies 14 = .ok (.iload_n 3, 1) := by decide +kernel
theorem dX10_copies_15 : decode cX10_copies 15 = .ok (.invokevirtual 327, 3) := by decide +kernel
theorem dX10_copies_18 : decode cX10_copies 18 = .ok (.aload_n 0, 1) := by decide +kernel
theorem dX10_copies_19 : decode cX10_copies 19 = .ok (.getfield 19, 3) := by decide +kernel
theorem dX10_copies_22 : decode cX10_copies 22 = .ok (.getfield 330, 3) := by decide +kernel
theorem dX10_copies_25 : decode cX10_copies 25 = .ok (.iload_n 3, 1) := by decide +kernel
theorem dX10_copies_26 : decode cX10_copies 26 = .ok (.invokestatic 193, 3) := by decide +kernel
theorem dX10_copies_29 : decode cX10_copies 29 = .ok (.iadd, 1) := by decide +kernel
theorem dX10_copies_30 : decode cX10_copies 30 = .ok (.iconst 2, 1) := by decide +kernel
theorem dX10_copies_31 : decode cX10_copies 31 = .ok (.if_icmp .le 9, 3) := by decide +kernel
theorem dX10_copies_34 : decode cX10_copies 34 = .ok (.lload_n 1, 1) := by decide +kernel
theorem dX10_copies_35 : decode cX10_copies 35 = .ok (.lconst 1, 1) := by decide +kernel
theorem dX10_copies_36 : decode cX10_copies 36 = .ok (.iload_n 3, 1) := by decide +kernel
theorem dX10_copies_37 : decode cX10_copies 37 = .ok (.lshl, 1) := by decide +kernel
theorem dX10_copies_38 : decode cX10_copies 38 = .ok (.lor, 1) := by decide +kernel
theorem dX10_copies_39 : decode cX10_copies 39 = .ok (.lstore_n 1, 1) := by decide +kernel
theorem dX10_copies_40 : decode cX10_copies 40 = .ok (.iinc 3 1, 3) := by decide +kernel
theorem dX10_copies_43 : decode cX10_copies 43 = .ok (.goto (-39), 3) := by decide +kernel
theorem dX10_copies_46 : decode cX10_copies 46 = .ok (.lload_n 1, 1) := by decide +kernel
theorem dX10_copies_47 : decode cX10_copies 47 = .ok (.lreturn, 1) := by decide +kernel
theorem dX10_rackIs_0 : decode cX10_rackIs 0 = .ok (.aload_n 0, 1) := by decide +kernel
theorem dX10_rackIs_1 : decode cX10_rackIs 1 = .ok (.iload_n 1, 1) := by decide +kernel
theorem dX10_rackIs_2 : decode cX10_rackIs 2 = .ok (.invokevirtual 273, 3) := by decide +kernel
theorem dX10_rackIs_5 : decode cX10_rackIs 5 = .ok (.aload_n 0, 1) := by decide +kernel
theorem dX10_rackIs_6 : decode cX10_rackIs 6 = .ok (.iload_n 2, 1) := by decide +kernel
theorem dX10_rackIs_7 : decode cX10_rackIs 7 = .ok (.invokevirtual 298, 3) := by decide +kernel
theorem dX10_rackIs_10 : decode cX10_rackIs 10 = .ok (.aload_n 0, 1) := by decide +kernel
theorem dX10_rackIs_11 : decode cX10_rackIs 11 = .ok (.getfield 19, 3) := by decide +kernel
theorem dX10_rackIs_14 : decode cX10_rackIs 14 = .ok (.iload_n 1, 1) := by decide +kernel
theorem dX10_rackIs_15 : decode cX10_rackIs 15 = .ok (.iload_n 2, 1) := by decide +kernel
theorem dX10_rackIs_16 : decode cX10_rackIs 16 = .ok (.invokevirtual 333, 3) := by decide +kernel
theorem dX10_rackIs_19 : decode cX10_rackIs 19 = .ok (.ireturn, 1) := by decide +kernel
theorem dX10_tableIs_0 : decode cX10_tableIs 0 = .ok (.aload_n 0, 1) := by decide +kernel
theorem dX10_tableIs_1 : decode cX10_tableIs 1 = .ok (.iload_n 1, 1) := by decide +kernel
theorem dX10_tableIs_2 : decode cX10_tableIs 2 = .ok (.invokevirtual 136, 3) := by decide +kernel
theorem dX10_tableIs_5 : decode cX10_tableIs 5 = .ok (.iload_n 2, 1) := by decide +kernel
theorem dX10_tableIs_6 : decode cX10_tableIs 6 = .ok (.ifCond .eq 17, 3) := by decide +kernel
theorem dX10_tableIs_9 : decode cX10_tableIs 9 = .ok (.aload_n 0, 1) := by decide +kernel
theorem dX10_tableIs_10 : decode cX10_tableIs 10 = .ok (.getfield 19, 3) := by decide +kernel
theorem dX10_tableIs_13 : decode cX10_tableIs 13 = .ok (.getfield 336, 3) := by decide +kernel
theorem dX10_tableIs_16 : decode cX10_tableIs 16 = .ok (.iload_n 1, 1) := by decide +kernel
theorem dX10_tableIs_17 : decode cX10_tableIs 17 = .ok (.invokestatic 193, 3) := by decide +kernel
theorem dX10_tableIs_20 : decode cX10_tableIs 20 = .ok (.goto 14, 3) := by decide +kernel
theorem dX10_tableIs_23 : decode cX10_tableIs 23 = .ok (.aload_n 0, 1) := by decide +kernel
theorem dX10_tableIs_24 : decode cX10_tableIs 24 = .ok (.getfield 19, 3) := by decide +kernel
theorem dX10_tableIs_27 : decode cX10_tableIs 27 = .ok (.getfield 330, 3) := by decide +kernel
theorem dX10_tableIs_30 : decode cX10_tableIs 30 = .ok (.iload_n 1, 1) := by decide +kernel
theorem dX10_tableIs_31 : decode cX10_tableIs 31 = .ok (.invokestatic 193, 3) := by decide +kernel
theorem dX10_tableIs_34 : decode cX10_tableIs 34 = .ok (.ireturn, 1) := by decide +kernel
theorem dX10_poolIs_0 : decode cX10_poolIs 0 = .ok (.aload_n 0, 1) := by decide +kernel
theorem dX10_poolIs_1 : decode cX10_poolIs 1 = .ok (.iload_n 1, 1) := by decide +kernel
theorem dX10_poolIs_2 : decode cX10_poolIs 2 = .ok (.invokevirtual 298, 3) := by decide +kernel
theorem dX10_poolIs_5 : decode cX10_poolIs 5 = .ok (.aload_n 0, 1) := by decide +kernel
theorem dX10_poolIs_6 : decode cX10_poolIs 6 = .ok (.getfield 19, 3) := by decide +kernel
theorem dX10_poolIs_9 : decode cX10_poolIs 9 = .ok (.getfield 338, 3) := by decide +kernel
theorem dX10_poolIs_12 : decode cX10_poolIs 12 = .ok (.iload_n 1, 1) := by decide +kernel
theorem dX10_poolIs_13 : decode cX10_poolIs 13 = .ok (.invokestatic 193, 3) := by decide +kernel
theorem dX10_poolIs_16 : decode cX10_poolIs 16 = .ok (.ireturn, 1) := by decide +kernel
theorem dX10_playerIs_0 : decode cX10_playerIs 0 = .ok (.aload_n 0, 1) := by decide +kernel
theorem dX10_playerIs_1 : decode cX10_playerIs 1 = .ok (.iload_n 1, 1) := by decide +kernel
theorem dX10_playerIs_2 : decode cX10_playerIs 2 = .ok (.invokevirtual 273, 3) := by decide +kernel
theorem dX10_playerIs_5 : decode cX10_playerIs 5 = .ok (.iload_n 2, 1) := by decide +kernel
theorem dX10_playerIs_6 : decode cX10_playerIs 6 = .ok (.tableswitch 167 0 9 #[54, 66, 78, 90, 102, 116, 125, 134, 143, 155], 54) := by decide +kernel
theorem dX10_playerIs_60 : decode cX10_playerIs 60 = .ok (.aload_n 0, 1) := by decide +kernel
theorem dX10_playerIs_61 : decode cX10_playerIs 61 = .ok (.getfield 29, 3) := by decide +kernel
theorem dX10_playerIs_64 : decode cX10_playerIs 64 = .ok (.getfield 341, 3) := by decide +kernel
theorem dX10_playerIs_67 : decode cX10_playerIs 67 = .ok (.iload_n 1, 1) := by decide +kernel
theorem dX10_playerIs_68 : decode cX10_playerIs 68 = .ok (.invokestatic 193, 3) := by decide +kernel
theorem dX10_playerIs_71 : decode cX10_playerIs 71 = .ok (.ireturn, 1) := by decide +kernel
theorem dX10_playerIs_72 : decode cX10_playerIs 72 = .ok (.aload_n 0, 1) := by decide +kernel
theorem dX10_playerIs_73 : decode cX10_playerIs 73 = .ok (.getfield 29, 3) := by decide +kernel
theorem dX10_playerIs_76 : decode cX10_playerIs 76 = .ok (.getfield 206, 3) := by decide +kernel
theorem dX10_playerIs_79 : decode cX10_playerIs 79 = .ok (.iload_n 1, 1) := by decide +kernel
theorem dX10_playerIs_80 : decode cX10_playerIs 80 = .ok (.invokestatic 193, 3) := by decide +kernel
theorem dX10_playerIs_83 : decode cX10_playerIs 83 = .ok (.ireturn, 1) := by decide +kernel
theorem dX10_playerIs_84 : decode cX10_playerIs 84 = .ok (.aload_n 0, 1) := by decide +kernel
theorem dX10_playerIs_85 : decode cX10_playerIs 85 = .ok (.getfield 29, 3) := by decide +kernel
theorem dX10_playerIs_88 : decode cX10_playerIs 88 = .ok (.getfield 344, 3) := by decide +kernel
theorem dX10_playerIs_91 : decode cX10_playerIs 91 = .ok (.iload_n 1, 1) := by decide +kernel
theorem dX10_playerIs_92 : decode cX10_playerIs 92 = .ok (.invokestatic 193, 3) := by decide +kernel
theorem dX10_playerIs_95 : decode cX10_playerIs 95 = .ok (.ireturn, 1) := by decide +kernel
theorem dX10_playerIs_96 : decode cX10_playerIs 96 = .ok (.aload_n 0, 1) := by decide +kernel
theorem dX10_playerIs_97 : decode cX10_playerIs 97 = .ok (.getfield 29, 3) := by decide +kernel
theorem dX10_playerIs_100 : decode cX10_playerIs 100 = .ok (.getfield 189, 3) := by decide +kernel
theorem dX10_playerIs_103 : decode cX10_playerIs 103 = .ok (.iload_n 1, 1) := by decide +kernel
theorem dX10_playerIs_104 : decode cX10_playerIs 104 = .ok (.invokestatic 193, 3) := by decide +kernel
theorem dX10_playerIs_107 : decode cX10_playerIs 107 = .ok (.ireturn, 1) := by decide +kernel
theorem dX10_playerIs_108 : decode cX10_playerIs 108 = .ok (.aload_n 0, 1) := by decide +kernel
theorem dX10_playerIs_109 : decode cX10_playerIs 109 = .ok (.iload_n 1, 1) := by decide +kernel
theorem dX10_playerIs_110 : decode cX10_playerIs 110 = .ok (.invokevirtual 209, 3) := by decide +kernel
theorem dX10_playerIs_113 : decode cX10_playerIs 113 = .ok (.ifCond .eq 7, 3) := by decide +kernel
theorem dX10_playerIs_116 : decode cX10_playerIs 116 = .ok (.iconst 1, 1) := by decide +kernel
theorem dX10_playerIs_117 : decode cX10_playerIs 117 = .ok (.goto 4, 3) := by decide +kernel
theorem dX10_playerIs_120 : decode cX10_playerIs 120 = .ok (.iconst 0, 1) := by decide +kernel
theorem dX10_playerIs_121 : decode cX10_playerIs 121 = .ok (.ireturn, 1) := by decide +kernel
theorem dX10_playerIs_122 : decode cX10_playerIs 122 = .ok (.aload_n 0, 1) := by decide +kernel
theorem dX10_playerIs_123 : decode cX10_playerIs 123 = .ok (.getfield 19, 3) := by decide +kernel
theorem dX10_playerIs_126 : decode cX10_playerIs 126 = .ok (.iload_n 1, 1) := by decide +kernel
theorem dX10_playerIs_127 : decode cX10_playerIs 127 = .ok (.invokevirtual 301, 3) := by decide +kernel
theorem dX10_playerIs_130 : decode cX10_playerIs 130 = .ok (.ireturn, 1) := by decide +kernel
theorem dX10_playerIs_131 : decode cX10_playerIs 131 = .ok (.aload_n 0, 1) := by decide +kernel
theorem dX10_playerIs_132 : decode cX10_playerIs 132 = .ok (.getfield 19, 3) := by decide +kernel
theorem dX10_playerIs_135 : decode cX10_playerIs 135 = .ok (.iload_n 1, 1) := by decide +kernel
theorem dX10_playerIs_136 : decode cX10_playerIs 136 = .ok (.invokevirtual 347, 3) := by decide +kernel
theorem dX10_playerIs_139 : decode cX10_playerIs 139 = .ok (.ireturn, 1) := by decide +kernel
theorem dX10_playerIs_140 : decode cX10_playerIs 140 = .ok (.aload_n 0, 1) := by decide +kernel
theorem dX10_playerIs_141 : decode cX10_playerIs 141 = .ok (.getfield 29, 3) := by decide +kernel
theorem dX10_playerIs_144 : decode cX10_playerIs 144 = .ok (.iload_n 1, 1) := by decide +kernel
theorem dX10_playerIs_145 : decode cX10_playerIs 145 = .ok (.invokevirtual 350, 3) := by decide +kernel
theorem dX10_playerIs_148 : decode cX10_playerIs 148 = .ok (.ireturn, 1) := by decide +kernel
theorem dX10_playerIs_149 : decode cX10_playerIs 149 = .ok (.aload_n 0, 1) := by decide +kernel
theorem dX10_playerIs_150 : decode cX10_playerIs 150 = .ok (.getfield 29, 3) := by decide +kernel
theorem dX10_playerIs_153 : decode cX10_playerIs 153 = .ok (.getfield 308, 3) := by decide +kernel
theorem dX10_playerIs_156 : decode cX10_playerIs 156 = .ok (.iload_n 1, 1) := by decide +kernel
theorem dX10_playerIs_157 : decode cX10_playerIs 157 = .ok (.invokestatic 193, 3) := by decide +kernel
theorem dX10_playerIs_160 : decode cX10_playerIs 160 = .ok (.ireturn, 1) := by decide +kernel
theorem dX10_playerIs_161 : decode cX10_playerIs 161 = .ok (.aload_n 0, 1) := by decide +kernel
theorem dX10_playerIs_162 : decode cX10_playerIs 162 = .ok (.getfield 29, 3) := by decide +kernel
theorem dX10_playerIs_165 : decode cX10_playerIs 165 = .ok (.getfield 353, 3) := by decide +kernel
theorem dX10_playerIs_168 : decode cX10_playerIs 168 = .ok (.iload_n 1, 1) := by decide +kernel
theorem dX10_playerIs_169 : decode cX10_playerIs 169 = .ok (.invokestatic 193, 3) := by decide +kernel
theorem dX10_playerIs_172 : decode cX10_playerIs 172 = .ok (.ireturn, 1) := by decide +kernel
theorem dX10_playerIs_173 : decode cX10_playerIs 173 = .ok (.new 78, 3) := by decide +kernel
theorem dX10_playerIs_176 : decode cX10_playerIs 176 = .ok (.dup, 1) := by decide +kernel
theorem dX10_playerIs_177 : decode cX10_playerIs 177 = .ok (.invokespecial 80, 3) := by decide +kernel
theorem dX10_playerIs_180 : decode cX10_playerIs 180 = .ok (.athrow, 1) := by decide +kernel
theorem dX10_team_0 : decode cX10_team 0 = .ok (.iload_n 1, 1) := by decide +kernel
theorem dX10_team_1 : decode cX10_team 1 = .ok (.iconst 0, 1) := by decide +kernel
theorem dX10_team_2 : decode cX10_team 2 = .ok (.iconst 1, 1) := by decide +kernel
theorem dX10_team_3 : decode cX10_team 3 = .ok (.invokestatic 74, 3) := by decide +kernel
theorem dX10_team_6 : decode cX10_team 6 = .ok (.ifCond .ne 11, 3) := by decide +kernel
theorem dX10_team_9 : decode cX10_team 9 = .ok (.new 78, 3) := by decide +kernel
theorem dX10_team_12 : decode cX10_team 12 = .ok (.dup, 1) := by decide +kernel
theorem dX10_team_13 : decode cX10_team 13 = .ok (.invokespecial 80, 3) := by decide +kernel
theorem dX10_team_16 : decode cX10_team 16 = .ok (.athrow, 1) := by decide +kernel
theorem dX10_team_17 : decode cX10_team 17 = .ok (.aload_n 0, 1) := by decide +kernel
theorem dX10_team_18 : decode cX10_team 18 = .ok (.getfield 29, 3) := by decide +kernel
theorem dX10_team_21 : decode cX10_team 21 = .ok (.iload_n 1, 1) := by decide +kernel
theorem dX10_team_22 : decode cX10_team 22 = .ok (.invokevirtual 356, 3) := by decide +kernel
theorem dX10_team_25 : decode cX10_team 25 = .ok (.ireturn, 1) := by decide +kernel
theorem dX10_entry_0 : decode cX10_entry 0 = .ok (.iload_n 1, 1) := by decide +kernel
theorem dX10_entry_1 : decode cX10_entry 1 = .ok (.iconst 0, 1) := by decide +kernel
theorem dX10_entry_2 : decode cX10_entry 2 = .ok (.aload_n 0, 1) := by decide +kernel
theorem dX10_entry_3 : decode cX10_entry 3 = .ok (.getfield 43, 3) := by decide +kernel
theorem dX10_entry_6 : decode cX10_entry 6 = .ok (.getfield 359, 3) := by decide +kernel
theorem dX10_entry_9 : decode cX10_entry 9 = .ok (.iconst 1, 1) := by decide +kernel
theorem dX10_entry_10 : decode cX10_entry 10 = .ok (.isub, 1) := by decide +kernel
theorem dX10_entry_11 : decode cX10_entry 11 = .ok (.invokestatic 74, 3) := by decide +kernel
theorem dX10_entry_14 : decode cX10_entry 14 = .ok (.ifCond .ne 11, 3) := by decide +kernel
theorem dX10_entry_17 : decode cX10_entry 17 = .ok (.new 360, 3) := by decide +kernel
theorem dX10_entry_20 : decode cX10_entry 20 = .ok (.dup, 1) := by decide +kernel
theorem dX10_entry_21 : decode cX10_entry 21 = .ok (.invokespecial 362, 3) := by decide +kernel
theorem dX10_entry_24 : decode cX10_entry 24 = .ok (.athrow, 1) := by decide +kernel
theorem dX10_entry_25 : decode cX10_entry 25 = .ok (.aload_n 0, 1) := by decide +kernel
theorem dX10_entry_26 : decode cX10_entry 26 = .ok (.getfield 43, 3) := by decide +kernel
theorem dX10_entry_29 : decode cX10_entry 29 = .ok (.getfield 359, 3) := by decide +kernel
theorem dX10_entry_32 : decode cX10_entry 32 = .ok (.iconst 1, 1) := by decide +kernel
theorem dX10_entry_33 : decode cX10_entry 33 = .ok (.isub, 1) := by decide +kernel
theorem dX10_entry_34 : decode cX10_entry 34 = .ok (.iload_n 1, 1) := by decide +kernel
theorem dX10_entry_35 : decode cX10_entry 35 = .ok (.isub, 1) := by decide +kernel
theorem dX10_entry_36 : decode cX10_entry 36 = .ok (.istore_n 3, 1) := by decide +kernel
theorem dX10_entry_37 : decode cX10_entry 37 = .ok (.iload_n 2, 1) := by decide +kernel
theorem dX10_entry_38 : decode cX10_entry 38 = .ok (.tableswitch 66 0 3 #[30, 39, 48, 57], 30) := by decide +kernel
theorem dX10_entry_68 : decode cX10_entry 68 = .ok (.aload_n 0, 1) := by decide +kernel
theorem dX10_entry_69 : decode cX10_entry 69 = .ok (.getfield 43, 3) := by decide +kernel
theorem dX10_entry_72 : decode cX10_entry 72 = .ok (.iload_n 3, 1) := by decide +kernel
theorem dX10_entry_73 : decode cX10_entry 73 = .ok (.invokevirtual 363, 3) := by decide +kernel
theorem dX10_entry_76 : decode cX10_entry 76 = .ok (.ireturn, 1) := by decide +kernel
theorem dX10_entry_77 : decode cX10_entry 77 = .ok (.aload_n 0, 1) := by decide +kernel
theorem dX10_entry_78 : decode cX10_entry 78 = .ok (.getfield 43, 3) := by decide +kernel
theorem dX10_entry_81 : decode cX10_entry 81 = .ok (.iload_n 3, 1) := by decide +kernel
theorem dX10_entry_82 : decode cX10_entry 82 = .ok (.invokevirtual 366, 3) := by decide +kernel
theorem dX10_entry_85 : decode cX10_entry 85 = .ok (.ireturn, 1) := by decide +kernel
theorem dX10_entry_86 : decode cX10_entry 86 = .ok (.aload_n 0, 1) := by decide +kernel
theorem dX10_entry_87 : decode cX10_entry 87 = .ok (.getfield 43, 3) := by decide +kernel
theorem dX10_entry_90 : decode cX10_entry 90 = .ok (.iload_n 3, 1) := by decide +kernel
theorem dX10_entry_91 : decode cX10_entry 91 = .ok (.invokevirtual 369, 3) := by decide +kernel
theorem dX10_entry_94 : decode cX10_entry 94 = .ok (.ireturn, 1) := by decide +kernel
theorem dX10_entry_95 : decode cX10_entry 95 = .ok (.aload_n 0, 1) := by decide +kernel
theorem dX10_entry_96 : decode cX10_entry 96 = .ok (.getfield 43, 3) := by decide +kernel
theorem dX10_entry_99 : decode cX10_entry 99 = .ok (.iload_n 3, 1) := by decide +kernel
theorem dX10_entry_100 : decode cX10_entry 100 = .ok (.invokevirtual 372, 3) := by decide +kernel
theorem dX10_entry_103 : decode cX10_entry 103 = .ok (.ireturn, 1) := by decide +kernel
theorem dX10_entry_104 : decode cX10_entry 104 = .ok (.new 78, 3) := by decide +kernel
theorem dX10_entry_107 : decode cX10_entry 107 = .ok (.dup, 1) := by decide +kernel
theorem dX10_entry_108 : decode cX10_entry 108 = .ok (.invokespecial 80, 3) := by decide +kernel
theorem dX10_entry_111 : decode cX10_entry 111 = .ok (.athrow, 1) := by decide +kernel
theorem dX10_isReplayed_0 : decode cX10_isReplayed 0 = .ok (.aload_n 0, 1) := by decide +kernel
theorem dX10_isReplayed_1 : decode cX10_isReplayed 1 = .ok (.getfield 23, 3) := by decide +kernel
theorem dX10_isReplayed_4 : decode cX10_isReplayed 4 = .ok (.invokevirtual 103, 3) := by decide +kernel
theorem dX10_isReplayed_7 : decode cX10_isReplayed 7 = .ok (.aload_n 0, 1) := by decide +kernel
theorem dX10_isReplayed_8 : decode cX10_isReplayed 8 = .ok (.getfield 43, 3) := by decide +kernel
theorem dX10_isReplayed_11 : decode cX10_isReplayed 11 = .ok (.getfield 375, 3) := by decide +kernel
theorem dX10_isReplayed_14 : decode cX10_isReplayed 14 = .ok (.ifCond .eq 82, 3) := by decide +kernel
theorem dX10_isReplayed_17 : decode cX10_isReplayed 17 = .ok (.aload_n 0, 1) := by decide +kernel
theorem dX10_isReplayed_18 : decode cX10_isReplayed 18 = .ok (.getfield 23, 3) := by decide +kernel
theorem dX10_isReplayed_21 : decode cX10_isReplayed 21 = .ok (.aload_n 0, 1) := by decide +kernel
theorem dX10_isReplayed_22 : decode cX10_isReplayed 22 = .ok (.getfield 12, 3) := by decide +kernel
theorem dX10_isReplayed_25 : decode cX10_isReplayed 25 = .ok (.aload_n 0, 1) := by decide +kernel
theorem dX10_isReplayed_26 : decode cX10_isReplayed 26 = .ok (.getfield 43, 3) := by decide +kernel
theorem dX10_isReplayed_29 : decode cX10_isReplayed 29 = .ok (.getfield 378, 3) := by decide +kernel
theorem dX10_isReplayed_32 : decode cX10_isReplayed 32 = .ok (.aload_n 0, 1) := by decide +kernel
theorem dX10_isReplayed_33 : decode cX10_isReplayed 33 = .ok (.getfield 43, 3) := by decide +kernel
theorem dX10_isReplayed_36 : decode cX10_isReplayed 36 = .ok (.getfield 381, 3) := by decide +kernel
theorem dX10_isReplayed_39 : decode cX10_isReplayed 39 = .ok (.aload_n 0, 1) := by decide +kernel
theorem dX10_isReplayed_40 : decode cX10_isReplayed 40 = .ok (.getfield 43, 3) := by decide +kernel
theorem dX10_isReplayed_43 : decode cX10_isReplayed 43 = .ok (.getfield 384, 3) := by decide +kernel
theorem dX10_isReplayed_46 : decode cX10_isReplayed 46 = .ok (.invokevirtual 126, 3) := by decide +kernel
theorem dX10_isReplayed_49 : decode cX10_isReplayed 49 = .ok (.iconst 0, 1) := by decide +kernel
theorem dX10_isReplayed_50 : decode cX10_isReplayed 50 = .ok (.istore_n 1, 1) := by decide +kernel
theorem dX10_isReplayed_51 : decode cX10_isReplayed 51 = .ok (.iload_n 1, 1) := by decide +kernel
theorem dX10_isReplayed_52 : decode cX10_isReplayed 52 = .ok (.aload_n 0, 1) := by decide +kernel
theorem dX10_isReplayed_53 : decode cX10_isReplayed 53 = .ok (.getfield 43, 3) := by decide +kernel
theorem dX10_isReplayed_56 : decode cX10_isReplayed 56 = .ok (.getfield 359, 3) := by decide +kernel
theorem dX10_isReplayed_59 : decode cX10_isReplayed 59 = .ok (.if_icmp .ge 37, 3) := by decide +kernel
theorem dX10_isReplayed_62 : decode cX10_isReplayed 62 = .ok (.aload_n 0, 1) := by decide +kernel
theorem dX10_isReplayed_63 : decode cX10_isReplayed 63 = .ok (.aload_n 0, 1) := by decide +kernel
theorem dX10_isReplayed_64 : decode cX10_isReplayed 64 = .ok (.getfield 43, 3) := by decide +kernel
theorem dX10_isReplayed_67 : decode cX10_isReplayed 67 = .ok (.iload_n 1, 1) := by decide +kernel
theorem dX10_isReplayed_68 : decode cX10_isReplayed 68 = .ok (.invokevirtual 363, 3) := by decide +kernel
theorem dX10_isReplayed_71 : decode cX10_isReplayed 71 = .ok (.aload_n 0, 1) := by decide +kernel
theorem dX10_isReplayed_72 : decode cX10_isReplayed 72 = .ok (.getfield 43, 3) := by decide +kernel
theorem dX10_isReplayed_75 : decode cX10_isReplayed 75 = .ok (.iload_n 1, 1) := by decide +kernel
theorem dX10_isReplayed_76 : decode cX10_isReplayed 76 = .ok (.invokevirtual 366, 3) := by decide +kernel
theorem dX10_isReplayed_79 : decode cX10_isReplayed 79 = .ok (.aload_n 0, 1) := by decide +kernel
theorem dX10_isReplayed_80 : decode cX10_isReplayed 80 = .ok (.getfield 43, 3) := by decide +kernel
theorem dX10_isReplayed_83 : decode cX10_isReplayed 83 = .ok (.iload_n 1, 1) := by decide +kernel
theorem dX10_isReplayed_84 : decode cX10_isReplayed 84 = .ok (.invokevirtual 369, 3) := by decide +kernel
theorem dX10_isReplayed_87 : decode cX10_isReplayed 87 = .ok (.invokevirtual 387, 3) := by decide +kernel
theorem dX10_isReplayed_90 : decode cX10_isReplayed 90 = .ok (.iinc 1 1, 3) := by decide +kernel
theorem dX10_isReplayed_93 : decode cX10_isReplayed 93 = .ok (.goto (-42), 3) := by decide +kernel
theorem dX10_isReplayed_96 : decode cX10_isReplayed 96 = .ok (.aload_n 0, 1) := by decide +kernel
theorem dX10_isReplayed_97 : decode cX10_isReplayed 97 = .ok (.getfield 19, 3) := by decide +kernel
theorem dX10_isReplayed_100 : decode cX10_isReplayed 100 = .ok (.aload_n 0, 1) := by decide +kernel
theorem dX10_isReplayed_101 : decode cX10_isReplayed 101 = .ok (.getfield 23, 3) := by decide +kernel
theorem dX10_isReplayed_104 : decode cX10_isReplayed 104 = .ok (.invokevirtual 390, 3) := by decide +kernel
theorem dX10_isReplayed_107 : decode cX10_isReplayed 107 = .ok (.ireturn, 1) := by decide +kernel
theorem dX10_sum_0 : decode cX10_sum 0 = .ok (.iload_n 1, 1) := by decide +kernel
theorem dX10_sum_1 : decode cX10_sum 1 = .ok (.tableswitch 147 0 11 #[63, 68, 76, 84, 92, 100, 108, 113, 121, 126, 131, 139], 63) := by decide +kernel
theorem dX10_sum_64 : decode cX10_sum 64 = .ok (.aload_n 0, 1) := by decide +kernel
theorem dX10_sum_65 : decode cX10_sum 65 = .ok (.getfield 61, 3) := by decide +kernel
theorem dX10_sum_68 : decode cX10_sum 68 = .ok (.ireturn, 1) := by decide +kernel
theorem dX10_sum_69 : decode cX10_sum 69 = .ok (.aload_n 0, 1) := by decide +kernel
theorem dX10_sum_70 : decode cX10_sum 70 = .ok (.getfield 19, 3) := by decide +kernel
theorem dX10_sum_73 : decode cX10_sum 73 = .ok (.getfield 133, 3) := by decide +kernel
theorem dX10_sum_76 : decode cX10_sum 76 = .ok (.ireturn, 1) := by decide +kernel
theorem dX10_sum_77 : decode cX10_sum 77 = .ok (.aload_n 0, 1) := by decide +kernel
theorem dX10_sum_78 : decode cX10_sum 78 = .ok (.getfield 19, 3) := by decide +kernel
theorem dX10_sum_81 : decode cX10_sum 81 = .ok (.getfield 261, 3) := by decide +kernel
theorem dX10_sum_84 : decode cX10_sum 84 = .ok (.ireturn, 1) := by decide +kernel
theorem dX10_sum_85 : decode cX10_sum 85 = .ok (.aload_n 0, 1) := by decide +kernel
theorem dX10_sum_86 : decode cX10_sum 86 = .ok (.getfield 19, 3) := by decide +kernel
theorem dX10_sum_89 : decode cX10_sum 89 = .ok (.getfield 156, 3) := by decide +kernel
theorem dX10_sum_92 : decode cX10_sum 92 = .ok (.ireturn, 1) := by decide +kernel
theorem dX10_sum_93 : decode cX10_sum 93 = .ok (.aload_n 0, 1) := by decide +kernel
theorem dX10_sum_94 : decode cX10_sum 94 = .ok (.getfield 19, 3) := by decide +kernel
theorem dX10_sum_97 : decode cX10_sum 97 = .ok (.getfield 165, 3) := by decide +kernel
theorem dX10_sum_100 : decode cX10_sum 100 = .ok (.ireturn, 1) := by decide +kernel
theorem dX10_sum_101 : decode cX10_sum 101 = .ok (.aload_n 0, 1) := by decide +kernel
theorem dX10_sum_102 : decode cX10_sum 102 = .ok (.getfield 19, 3) := by decide +kernel
theorem dX10_sum_105 : decode cX10_sum 105 = .ok (.getfield 174, 3) := by decide +kernel
theorem dX10_sum_108 : decode cX10_sum 108 = .ok (.ireturn, 1) := by decide +kernel
theorem dX10_sum_109 : decode cX10_sum 109 = .ok (.aload_n 0, 1) := by decide +kernel
theorem dX10_sum_110 : decode cX10_sum 110 = .ok (.getfield 130, 3) := by decide +kernel
theorem dX10_sum_113 : decode cX10_sum 113 = .ok (.ireturn, 1) := by decide +kernel
theorem dX10_sum_114 : decode cX10_sum 114 = .ok (.aload_n 0, 1) := by decide +kernel
theorem dX10_sum_115 : decode cX10_sum 115 = .ok (.getfield 43, 3) := by decide +kernel
theorem dX10_sum_118 : decode cX10_sum 118 = .ok (.getfield 359, 3) := by decide +kernel
theorem dX10_sum_121 : decode cX10_sum 121 = .ok (.ireturn, 1) := by decide +kernel
theorem dX10_sum_122 : decode cX10_sum 122 = .ok (.aload_n 0, 1) := by decide +kernel
theorem dX10_sum_123 : decode cX10_sum 123 = .ok (.getfield 394, 3) := by decide +kernel
theorem dX10_sum_126 : decode cX10_sum 126 = .ok (.ireturn, 1) := by decide +kernel
theorem dX10_sum_127 : decode cX10_sum 127 = .ok (.aload_n 0, 1) := by decide +kernel
theorem dX10_sum_128 : decode cX10_sum 128 = .ok (.getfield 65, 3) := by decide +kernel
theorem dX10_sum_131 : decode cX10_sum 131 = .ok (.ireturn, 1) := by decide +kernel
theorem dX10_sum_132 : decode cX10_sum 132 = .ok (.aload_n 0, 1) := by decide +kernel
theorem dX10_sum_133 : decode cX10_sum 133 = .ok (.getfield 36, 3) := by decide +kernel
theorem dX10_sum_136 : decode cX10_sum 136 = .ok (.getfield 222, 3) := by decide +kernel
theorem dX10_sum_139 : decode cX10_sum 139 = .ok (.ireturn, 1) := by decide +kernel
theorem dX10_sum_140 : decode cX10_sum 140 = .ok (.aload_n 0, 1) := by decide +kernel
theorem dX10_sum_141 : decode cX10_sum 141 = .ok (.getfield 19, 3) := by decide +kernel
theorem dX10_sum_144 : decode cX10_sum 144 = .ok (.getfield 397, 3) := by decide +kernel
theorem dX10_sum_147 : decode cX10_sum 147 = .ok (.ireturn, 1) := by decide +kernel
theorem dX10_sum_148 : decode cX10_sum 148 = .ok (.new 78, 3) := by decide +kernel
theorem dX10_sum_151 : decode cX10_sum 151 = .ok (.dup, 1) := by decide +kernel
theorem dX10_sum_152 : decode cX10_sum 152 = .ok (.invokespecial 80, 3) := by decide +kernel
theorem dX10_sum_155 : decode cX10_sum 155 = .ok (.athrow, 1) := by decide +kernel
theorem dX10_needRound_0 : decode cX10_needRound 0 = .ok (.aload_n 0, 1) := by decide +kernel
theorem dX10_needRound_1 : decode cX10_needRound 1 = .ok (.invokevirtual 81, 3) := by decide +kernel
theorem dX10_needRound_4 : decode cX10_needRound 4 = .ok (.ifCond .ne 11, 3) := by decide +kernel
theorem dX10_needRound_7 : decode cX10_needRound 7 = .ok (.new 85, 3) := by decide +kernel
theorem dX10_needRound_10 : decode cX10_needRound 10 = .ok (.dup, 1) := by decide +kernel
theorem dX10_needRound_11 : decode cX10_needRound 11 = .ok (.invokespecial 87, 3) := by decide +kernel
theorem dX10_needRound_14 : decode cX10_needRound 14 = .ok (.athrow, 1) := by decide +kernel
theorem dX10_needRound_15 : decode cX10_needRound 15 = .ok (.return_, 1) := by decide +kernel
theorem dX10_needPlayer_0 : decode cX10_needPlayer 0 = .ok (.iload_n 1, 1) := by decide +kernel
theorem dX10_needPlayer_1 : decode cX10_needPlayer 1 = .ok (.iconst 0, 1) := by decide +kernel
theorem dX10_needPlayer_2 : decode cX10_needPlayer 2 = .ok (.aload_n 0, 1) := by decide +kernel
theorem dX10_needPlayer_3 : decode cX10_needPlayer 3 = .ok (.getfield 29, 3) := by decide +kernel
theorem dX10_needPlayer_6 : decode cX10_needPlayer 6 = .ok (.getfield 111, 3) := by decide +kernel
theorem dX10_needPlayer_9 : decode cX10_needPlayer 9 = .ok (.iconst 1, 1) := by decide +kernel
theorem dX10_needPlayer_10 : decode cX10_needPlayer 10 = .ok (.isub, 1) := by decide +kernel
theorem dX10_needPlayer_11 : decode cX10_needPlayer 11 = .ok (.invokestatic 74, 3) := by decide +kernel
theorem dX10_needPlayer_14 : decode cX10_needPlayer 14 = .ok (.ifCond .ne 11, 3) := by decide +kernel
theorem dX10_needPlayer_17 : decode cX10_needPlayer 17 = .ok (.new 360, 3) := by decide +kernel
theorem dX10_needPlayer_20 : decode cX10_needPlayer 20 = .ok (.dup, 1) := by decide +kernel
theorem dX10_needPlayer_21 : decode cX10_needPlayer 21 = .ok (.invokespecial 362, 3) := by decide +kernel
theorem dX10_needPlayer_24 : decode cX10_needPlayer 24 = .ok (.athrow, 1) := by decide +kernel
theorem dX10_needPlayer_25 : decode cX10_needPlayer 25 = .ok (.return_, 1) := by decide +kernel
theorem dX10_needKind_0 : decode cX10_needKind 0 = .ok (.aload_n 0, 1) := by decide +kernel
theorem dX10_needKind_1 : decode cX10_needKind 1 = .ok (.getfield 12, 3) := by decide +kernel
theorem dX10_needKind_4 : decode cX10_needKind 4 = .ok (.iload_n 1, 1) := by decide +kernel
theorem dX10_needKind_5 : decode cX10_needKind 5 = .ok (.invokevirtual 398, 3) := by decide +kernel
theorem dX10_needKind_8 : decode cX10_needKind 8 = .ok (.ifCond .ne 11, 3) := by decide +kernel
theorem dX10_needKind_11 : decode cX10_needKind 11 = .ok (.new 78, 3) := by decide +kernel
theorem dX10_needKind_14 : decode cX10_needKind 14 = .ok (.dup, 1) := by decide +kernel
theorem dX10_needKind_15 : decode cX10_needKind 15 = .ok (.invokespecial 80, 3) := by decide +kernel
theorem dX10_needKind_18 : decode cX10_needKind 18 = .ok (.athrow, 1) := by decide +kernel
theorem dX10_needKind_19 : decode cX10_needKind 19 = .ok (.return_, 1) := by decide +kernel
theorem dX10_needPiece_0 : decode cX10_needPiece 0 = .ok (.iload_n 1, 1) := by decide +kernel
theorem dX10_needPiece_1 : decode cX10_needPiece 1 = .ok (.bipush 52, 2) := by decide +kernel
theorem dX10_needPiece_3 : decode cX10_needPiece 3 = .ok (.if_icmp .eq 22, 3) := by decide +kernel
theorem dX10_needPiece_6 : decode cX10_needPiece 6 = .ok (.aload_n 0, 1) := by decide +kernel
theorem dX10_needPiece_7 : decode cX10_needPiece 7 = .ok (.getfield 12, 3) := by decide +kernel
theorem dX10_needPiece_10 : decode cX10_needPiece 10 = .ok (.iload_n 1, 1) := by decide +kernel
theorem dX10_needPiece_11 : decode cX10_needPiece 11 = .ok (.invokevirtual 398, 3) := by decide +kernel
theorem dX10_needPiece_14 : decode cX10_needPiece 14 = .ok (.ifCond .ne 11, 3) := by decide +kernel
theorem dX10_needPiece_17 : decode cX10_needPiece 17 = .ok (.new 78, 3) := by decide +kernel
theorem dX10_needPiece_20 : decode cX10_needPiece 20 = .ok (.dup, 1) := by decide +kernel
theorem dX10_needPiece_21 : decode cX10_needPiece 21 = .ok (.invokespecial 80, 3) := by decide +kernel
theorem dX10_needPiece_24 : decode cX10_needPiece 24 = .ok (.athrow, 1) := by decide +kernel
theorem dX10_needPiece_25 : decode cX10_needPiece 25 = .ok (.return_, 1) := by decide +kernel
theorem dX10_isOn_0 : decode cX10_isOn 0 = .ok (.aload_n 0, 1) := by decide +kernel
theorem dX10_isOn_1 : decode cX10_isOn 1 = .ok (.getfield 61, 3) := by decide +kernel
theorem dX10_isOn_4 : decode cX10_isOn 4 = .ok (.iconst (-1), 1) := by decide +kernel
theorem dX10_isOn_5 : decode cX10_isOn 5 = .ok (.if_icmp .eq 7, 3) := by decide +kernel
theorem dX10_isOn_8 : decode cX10_isOn 8 = .ok (.iconst 1, 1) := by decide +kernel
theorem dX10_isOn_9 : decode cX10_isOn 9 = .ok (.goto 4, 3) := by decide +kernel
theorem dX10_isOn_12 : decode cX10_isOn 12 = .ok (.iconst 0, 1) := by decide +kernel
theorem dX10_isOn_13 : decode cX10_isOn 13 = .ok (.ireturn, 1) := by decide +kernel
theorem dX10_hasMelded_0 : decode cX10_hasMelded 0 = .ok (.aload_n 0, 1) := by decide +kernel
theorem dX10_hasMelded_1 : decode cX10_hasMelded 1 = .ok (.getfield 29, 3) := by decide +kernel
theorem dX10_hasMelded_4 : decode cX10_hasMelded 4 = .ok (.getfield 401, 3) := by decide +kernel
theorem dX10_hasMelded_7 : decode cX10_hasMelded 7 = .ok (.iload_n 1, 1) := by decide +kernel
theorem dX10_hasMelded_8 : decode cX10_hasMelded 8 = .ok (.invokestatic 193, 3) := by decide +kernel
theorem dX10_hasMelded_11 : decode cX10_hasMelded 11 = .ok (.iconst 1, 1) := by decide +kernel
theorem dX10_hasMelded_12 : decode cX10_hasMelded 12 = .ok (.if_icmp .ne 7, 3) := by decide +kernel
theorem dX10_hasMelded_15 : decode cX10_hasMelded 15 = .ok (.iconst 1, 1) := by decide +kernel
theorem dX10_hasMelded_16 : decode cX10_hasMelded 16 = .ok (.goto 4, 3) := by decide +kernel
theorem dX10_hasMelded_19 : decode cX10_hasMelded 19 = .ok (.iconst 0, 1) := by decide +kernel
theorem dX10_hasMelded_20 : decode cX10_hasMelded 20 = .ok (.ireturn, 1) := by decide +kernel
theorem dX10_mayLay_0 : decode cX10_mayLay 0 = .ok (.aload_n 0, 1) := by decide +kernel
theorem dX10_mayLay_1 : decode cX10_mayLay 1 = .ok (.invokevirtual 81, 3) := by decide +kernel
theorem dX10_mayLay_4 : decode cX10_mayLay 4 = .ok (.ifCond .eq 34, 3) := by decide +kernel
theorem dX10_mayLay_7 : decode cX10_mayLay 7 = .ok (.aload_n 0, 1) := by decide +kernel
theorem dX10_mayLay_8 : decode cX10_mayLay 8 = .ok (.getfield 19, 3) := by decide +kernel
theorem dX10_mayLay_11 : decode cX10_mayLay 11 = .ok (.aload_n 0, 1) := by decide +kernel
theorem dX10_mayLay_12 : decode cX10_mayLay 12 = .ok (.getfield 61, 3) := by decide +kernel
theorem dX10_mayLay_15 : decode cX10_mayLay 15 = .ok (.iload_n 1, 1) := by decide +kernel
theorem dX10_mayLay_16 : decode cX10_mayLay 16 = .ok (.invokevirtual 333, 3) := by decide +kernel
theorem dX10_mayLay_19 : decode cX10_mayLay 19 = .ok (.ifCond .le 19, 3) := by decide +kernel
theorem dX10_mayLay_22 : decode cX10_mayLay 22 = .ok (.aload_n 0, 1) := by decide +kernel
theorem dX10_mayLay_23 : decode cX10_mayLay 23 = .ok (.getfield 19, 3) := by decide +kernel
theorem dX10_mayLay_26 : decode cX10_mayLay 26 = .ok (.iload_n 1, 1) := by decide +kernel
theorem dX10_mayLay_27 : decode cX10_mayLay 27 = .ok (.invokevirtual 146, 3) := by decide +kernel
theorem dX10_mayLay_30 : decode cX10_mayLay 30 = .ok (.iconst 2, 1) := by decide +kernel
theorem dX10_mayLay_31 : decode cX10_mayLay 31 = .ok (.if_icmp .ge 7, 3) := by decide +kernel
theorem dX10_mayLay_34 : decode cX10_mayLay 34 = .ok (.iconst 1, 1) := by decide +kernel
theorem dX10_mayLay_35 : decode cX10_mayLay 35 = .ok (.goto 4, 3) := by decide +kernel
theorem dX10_mayLay_38 : decode cX10_mayLay 38 = .ok (.iconst 0, 1) := by decide +kernel
theorem dX10_mayLay_39 : decode cX10_mayLay 39 = .ok (.ireturn, 1) := by decide +kernel
theorem dX10_mayLayJoker_0 : decode cX10_mayLayJoker 0 = .ok (.aload_n 0, 1) := by decide +kernel
theorem dX10_mayLayJoker_1 : decode cX10_mayLayJoker 1 = .ok (.invokevirtual 81, 3) := by decide +kernel
theorem dX10_mayLayJoker_4 : decode cX10_mayLayJoker 4 = .ok (.ifCond .eq 45, 3) := by decide +kernel
theorem dX10_mayLayJoker_7 : decode cX10_mayLayJoker 7 = .ok (.aload_n 0, 1) := by decide +kernel
theorem dX10_mayLayJoker_8 : decode cX10_mayLayJoker 8 = .ok (.getfield 19, 3) := by decide +kernel
theorem dX10_mayLayJoker_11 : decode cX10_mayLayJoker 11 = .ok (.getfield 165, 3) := by decide +kernel
theorem dX10_mayLayJoker_14 : decode cX10_mayLayJoker 14 = .ok (.ifCond .gt 19, 3) := by decide +kernel
theorem dX10_mayLayJoker_17 : decode cX10_mayLayJoker 17 = .ok (.aload_n 0, 1) := by decide +kernel
theorem dX10_mayLayJoker_18 : decode cX10_mayLayJoker 18 = .ok (.getfield 19, 3) := by decide +kernel
theorem dX10_mayLayJoker_21 : decode cX10_mayLayJoker 21 = .ok (.aload_n 0, 1) := by decide +kernel
theorem dX10_mayLayJoker_22 : decode cX10_mayLayJoker 22 = .ok (.getfield 61, 3) := by decide +kernel
theorem dX10_mayLayJoker_25 : decode cX10_mayLayJoker 25 = .ok (.bipush 52, 2) := by decide +kernel
theorem dX10_mayLayJoker_27 : decode cX10_mayLayJoker 27 = .ok (.invokevirtual 333, 3) := by decide +kernel
theorem dX10_mayLayJoker_30 : decode cX10_mayLayJoker 30 = .ok (.ifCond .le 19, 3) := by decide +kernel
theorem dX10_mayLayJoker_33 : decode cX10_mayLayJoker 33 = .ok (.aload_n 0, 1) := by decide +kernel
theorem dX10_mayLayJoker_34 : decode cX10_mayLayJoker 34 = .ok (.getfield 19, 3) := by decide +kernel
theorem dX10_mayLayJoker_37 : decode cX10_mayLayJoker 37 = .ok (.iload_n 1, 1) := by decide +kernel
theorem dX10_mayLayJoker_38 : decode cX10_mayLayJoker 38 = .ok (.invokevirtual 146, 3) := by decide +kernel
theorem dX10_mayLayJoker_41 : decode cX10_mayLayJoker 41 = .ok (.iconst 2, 1) := by decide +kernel
theorem dX10_mayLayJoker_42 : decode cX10_mayLayJoker 42 = .ok (.if_icmp .ge 7, 3) := by decide +kernel
theorem dX10_mayLayJoker_45 : decode cX10_mayLayJoker 45 = .ok (.iconst 1, 1) := by decide +kernel
theorem dX10_mayLayJoker_46 : decode cX10_mayLayJoker 46 = .ok (.goto 4, 3) := by decide +kernel
theorem dX10_mayLayJoker_49 : decode cX10_mayLayJoker 49 = .ok (.iconst 0, 1) := by decide +kernel
theorem dX10_mayLayJoker_50 : decode cX10_mayLayJoker 50 = .ok (.ireturn, 1) := by decide +kernel
theorem dX10_maySwap_0 : decode cX10_maySwap 0 = .ok (.aload_n 0, 1) := by decide +kernel
theorem dX10_maySwap_1 : decode cX10_maySwap 1 = .ok (.invokevirtual 81, 3) := by decide +kernel
theorem dX10_maySwap_4 : decode cX10_maySwap 4 = .ok (.ifCond .eq 47, 3) := by decide +kernel
theorem dX10_maySwap_7 : decode cX10_maySwap 7 = .ok (.aload_n 0, 1) := by decide +kernel
theorem dX10_maySwap_8 : decode cX10_maySwap 8 = .ok (.aload_n 0, 1) := by decide +kernel
theorem dX10_maySwap_9 : decode cX10_maySwap 9 = .ok (.getfield 61, 3) := by decide +kernel
theorem dX10_maySwap_12 : decode cX10_maySwap 12 = .ok (.invokevirtual 209, 3) := by decide +kernel
theorem dX10_maySwap_15 : decode cX10_maySwap 15 = .ok (.ifCond .eq 36, 3) := by decide +kernel
theorem dX10_maySwap_18 : decode cX10_maySwap 18 = .ok (.aload_n 0, 1) := by decide +kernel
theorem dX10_maySwap_19 : decode cX10_maySwap 19 = .ok (.getfield 19, 3) := by decide +kernel
theorem dX10_maySwap_22 : decode cX10_maySwap 22 = .ok (.aload_n 0, 1) := by decide +kernel
theorem dX10_maySwap_23 : decode cX10_maySwap 23 = .ok (.getfield 61, 3) := by decide +kernel
theorem dX10_maySwap_26 : decode cX10_maySwap 26 = .ok (.iload_n 1, 1) := by decide +kernel
theorem dX10_maySwap_27 : decode cX10_maySwap 27 = .ok (.invokevirtual 333, 3) := by decide +kernel
theorem dX10_maySwap_30 : decode cX10_maySwap 30 = .ok (.ifCond .le 21, 3) := by decide +kernel
theorem dX10_maySwap_33 : decode cX10_maySwap 33 = .ok (.aload_n 0, 1) := by decide +kernel
theorem dX10_maySwap_34 : decode cX10_maySwap 34 = .ok (.getfield 19, 3) := by decide +kernel
theorem dX10_maySwap_37 : decode cX10_maySwap 37 = .ok (.getfield 336, 3) := by decide +kernel
theorem dX10_maySwap_40 : decode cX10_maySwap 40 = .ok (.iload_n 1, 1) := by decide +kernel
theorem dX10_maySwap_41 : decode cX10_maySwap 41 = .ok (.invokestatic 193, 3) := by decide +kernel
theorem dX10_maySwap_44 : decode cX10_maySwap 44 = .ok (.ifCond .le 7, 3) := by decide +kernel
theorem dX10_maySwap_47 : decode cX10_maySwap 47 = .ok (.iconst 1, 1) := by decide +kernel
theorem dX10_maySwap_48 : decode cX10_maySwap 48 = .ok (.goto 4, 3) := by decide +kernel
theorem dX10_maySwap_51 : decode cX10_maySwap 51 = .ok (.iconst 0, 1) := by decide +kernel
theorem dX10_maySwap_52 : decode cX10_maySwap 52 = .ok (.ireturn, 1) := by decide +kernel
theorem dX10_mayTakeBack_0 : decode cX10_mayTakeBack 0 = .ok (.aload_n 0, 1) := by decide +kernel
theorem dX10_mayTakeBack_1 : decode cX10_mayTakeBack 1 = .ok (.invokevirtual 81, 3) := by decide +kernel
theorem dX10_mayTakeBack_4 : decode cX10_mayTakeBack 4 = .ok (.ifCond .eq 17, 3) := by decide +kernel
theorem dX10_mayTakeBack_7 : decode cX10_mayTakeBack 7 = .ok (.aload_n 0, 1) := by decide +kernel
theorem dX10_mayTakeBack_8 : decode cX10_mayTakeBack 8 = .ok (.getfield 19, 3) := by decide +kernel
theorem dX10_mayTakeBack_11 : decode cX10_mayTakeBack 11 = .ok (.getfield 174, 3) := by decide +kernel
theorem dX10_mayTakeBack_14 : decode cX10_mayTakeBack 14 = .ok (.ifCond .le 7, 3) := by decide +kernel
theorem dX10_mayTakeBack_17 : decode cX10_mayTakeBack 17 = .ok (.iconst 1, 1) := by decide +kernel
theorem dX10_mayTakeBack_18 : decode cX10_mayTakeBack 18 = .ok (.goto 4, 3) := by decide +kernel
theorem dX10_mayTakeBack_21 : decode cX10_mayTakeBack 21 = .ok (.iconst 0, 1) := by decide +kernel
theorem dX10_mayTakeBack_22 : decode cX10_mayTakeBack 22 = .ok (.ireturn, 1) := by decide +kernel
theorem dX10_mayEnd_0 : decode cX10_mayEnd 0 = .ok (.aload_n 0, 1) := by decide +kernel
theorem dX10_mayEnd_1 : decode cX10_mayEnd 1 = .ok (.invokevirtual 81, 3) := by decide +kernel
theorem dX10_mayEnd_4 : decode cX10_mayEnd 4 = .ok (.ifCond .eq 23, 3) := by decide +kernel
theorem dX10_mayEnd_7 : decode cX10_mayEnd 7 = .ok (.aload_n 0, 1) := by decide +kernel
theorem dX10_mayEnd_8 : decode cX10_mayEnd 8 = .ok (.getfield 19, 3) := by decide +kernel
theorem dX10_mayEnd_11 : decode cX10_mayEnd 11 = .ok (.getfield 174, 3) := by decide +kernel
theorem dX10_mayEnd_14 : decode cX10_mayEnd 14 = .ok (.ifCond .eq 13, 3) := by decide +kernel
theorem dX10_mayEnd_17 : decode cX10_mayEnd 17 = .ok (.aload_n 0, 1) := by decide +kernel
theorem dX10_mayEnd_18 : decode cX10_mayEnd 18 = .ok (.getfield 19, 3) := by decide +kernel
theorem dX10_mayEnd_21 : decode cX10_mayEnd 21 = .ok (.getfield 165, 3) := by decide +kernel
theorem dX10_mayEnd_24 : decode cX10_mayEnd 24 = .ok (.ifCond .le 5, 3) := by decide +kernel
theorem dX10_mayEnd_27 : decode cX10_mayEnd 27 = .ok (.iconst 0, 1) := by decide +kernel
theorem dX10_mayEnd_28 : decode cX10_mayEnd 28 = .ok (.ireturn, 1) := by decide +kernel
theorem dX10_mayEnd_29 : decode cX10_mayEnd 29 = .ok (.aload_n 0, 1) := by decide +kernel
theorem dX10_mayEnd_30 : decode cX10_mayEnd 30 = .ok (.aload_n 0, 1) := by decide +kernel
theorem dX10_mayEnd_31 : decode cX10_mayEnd 31 = .ok (.getfield 61, 3) := by decide +kernel
theorem dX10_mayEnd_34 : decode cX10_mayEnd 34 = .ok (.invokevirtual 209, 3) := by decide +kernel
theorem dX10_mayEnd_37 : decode cX10_mayEnd 37 = .ok (.ifCond .ne 50, 3) := by decide +kernel
theorem dX10_mayEnd_40 : decode cX10_mayEnd 40 = .ok (.aload_n 0, 1) := by decide +kernel
theorem dX10_mayEnd_41 : decode cX10_mayEnd 41 = .ok (.invokevirtual 404, 3) := by decide +kernel
theorem dX10_mayEnd_44 : decode cX10_mayEnd 44 = .ok (.aload_n 0, 1) := by decide +kernel
theorem dX10_mayEnd_45 : decode cX10_mayEnd 45 = .ok (.getfield 19, 3) := by decide +kernel
theorem dX10_mayEnd_48 : decode cX10_mayEnd 48 = .ok (.invokevirtual 407, 3) := by decide +kernel
theorem dX10_mayEnd_51 : decode cX10_mayEnd 51 = .ok (.aload_n 0, 1) := by decide +kernel
theorem dX10_mayEnd_52 : decode cX10_mayEnd 52 = .ok (.getfield 12, 3) := by decide +kernel
theorem dX10_mayEnd_55 : decode cX10_mayEnd 55 = .ok (.getfield 97, 3) := by decide +kernel
theorem dX10_mayEnd_58 : decode cX10_mayEnd 58 = .ok (.if_icmp .lt 27, 3) := by decide +kernel
theorem dX10_mayEnd_61 : decode cX10_mayEnd 61 = .ok (.aload_n 0, 1) := by decide +kernel
theorem dX10_mayEnd_62 : decode cX10_mayEnd 62 = .ok (.getfield 50, 3) := by decide +kernel
theorem dX10_mayEnd_65 : decode cX10_mayEnd 65 = .ok (.aload_n 0, 1) := by decide +kernel
theorem dX10_mayEnd_66 : decode cX10_mayEnd 66 = .ok (.getfield 12, 3) := by decide +kernel
theorem dX10_mayEnd_69 : decode cX10_mayEnd 69 = .ok (.iconst 1, 1) := by decide +kernel
theorem dX10_mayEnd_70 : decode cX10_mayEnd 70 = .ok (.aload_n 0, 1) := by decide +kernel
theorem dX10_mayEnd_71 : decode cX10_mayEnd 71 = .ok (.getfield 12, 3) := by decide +kernel
theorem dX10_mayEnd_74 : decode cX10_mayEnd 74 = .ok (.getfield 88, 3) := by decide +kernel
theorem dX10_mayEnd_77 : decode cX10_mayEnd 77 = .ok (.iconst 1, 1) := by decide +kernel
theorem dX10_mayEnd_78 : decode cX10_mayEnd 78 = .ok (.iadd, 1) := by decide +kernel
theorem dX10_mayEnd_79 : decode cX10_mayEnd 79 = .ok (.invokevirtual 245, 3) := by decide +kernel
theorem dX10_mayEnd_82 : decode cX10_mayEnd 82 = .ok (.ifCond .ne 5, 3) := by decide +kernel
theorem dX10_mayEnd_85 : decode cX10_mayEnd 85 = .ok (.iconst 0, 1) := by decide +kernel
theorem dX10_mayEnd_86 : decode cX10_mayEnd 86 = .ok (.ireturn, 1) := by decide +kernel
theorem dX10_mayEnd_87 : decode cX10_mayEnd 87 = .ok (.aload_n 0, 1) := by decide +kernel
theorem dX10_mayEnd_88 : decode cX10_mayEnd 88 = .ok (.invokevirtual 242, 3) := by decide +kernel
theorem dX10_mayEnd_91 : decode cX10_mayEnd 91 = .ok (.aload_n 0, 1) := by decide +kernel
theorem dX10_mayEnd_92 : decode cX10_mayEnd 92 = .ok (.getfield 50, 3) := by decide +kernel
theorem dX10_mayEnd_95 : decode cX10_mayEnd 95 = .ok (.aload_n 0, 1) := by decide +kernel
theorem dX10_mayEnd_96 : decode cX10_mayEnd 96 = .ok (.getfield 12, 3) := by decide +kernel
theorem dX10_mayEnd_99 : decode cX10_mayEnd 99 = .ok (.iconst 1, 1) := by decide +kernel
theorem dX10_mayEnd_100 : decode cX10_mayEnd 100 = .ok (.aload_n 0, 1) := by decide +kernel
theorem dX10_mayEnd_101 : decode cX10_mayEnd 101 = .ok (.getfield 12, 3) := by decide +kernel
theorem dX10_mayEnd_104 : decode cX10_mayEnd 104 = .ok (.getfield 88, 3) := by decide +kernel
theorem dX10_mayEnd_107 : decode cX10_mayEnd 107 = .ok (.iconst 1, 1) := by decide +kernel
theorem dX10_mayEnd_108 : decode cX10_mayEnd 108 = .ok (.iadd, 1) := by decide +kernel
theorem dX10_mayEnd_109 : decode cX10_mayEnd 109 = .ok (.invokevirtual 245, 3) := by decide +kernel
theorem dX10_mayEnd_112 : decode cX10_mayEnd 112 = .ok (.ifCond .le 7, 3) := by decide +kernel
theorem dX10_mayEnd_115 : decode cX10_mayEnd 115 = .ok (.iconst 1, 1) := by decide +kernel
theorem dX10_mayEnd_116 : decode cX10_mayEnd 116 = .ok (.goto 4, 3) := by decide +kernel
theorem dX10_mayEnd_119 : decode cX10_mayEnd 119 = .ok (.iconst 0, 1) := by decide +kernel
theorem dX10_mayEnd_120 : decode cX10_mayEnd 120 = .ok (.ireturn, 1) := by decide +kernel
theorem dX10_layTile_0 : decode cX10_layTile 0 = .ok (.aload_n 0, 1) := by decide +kernel
theorem dX10_layTile_1 : decode cX10_layTile 1 = .ok (.getfield 19, 3) := by decide +kernel
theorem dX10_layTile_4 : decode cX10_layTile 4 = .ok (.aload_n 0, 1) := by decide +kernel
theorem dX10_layTile_5 : decode cX10_layTile 5 = .ok (.getfield 61, 3) := by decide +kernel
theorem dX10_layTile_8 : decode cX10_layTile 8 = .ok (.iload_n 1, 1) := by decide +kernel
theorem dX10_layTile_9 : decode cX10_layTile 9 = .ok (.invokevirtual 410, 3) := by decide +kernel
theorem dX10_layTile_12 : decode cX10_layTile 12 = .ok (.aload_n 0, 1) := by decide +kernel
theorem dX10_layTile_13 : decode cX10_layTile 13 = .ok (.getfield 43, 3) := by decide +kernel
theorem dX10_layTile_16 : decode cX10_layTile 16 = .ok (.iconst 1, 1) := by decide +kernel
theorem dX10_layTile_17 : decode cX10_layTile 17 = .ok (.aload_n 0, 1) := by decide +kernel
theorem dX10_layTile_18 : decode cX10_layTile 18 = .ok (.getfield 61, 3) := by decide +kernel
theorem dX10_layTile_21 : decode cX10_layTile 21 = .ok (.iload_n 1, 1) := by decide +kernel
theorem dX10_layTile_22 : decode cX10_layTile 22 = .ok (.iconst 0, 1) := by decide +kernel
theorem dX10_layTile_23 : decode cX10_layTile 23 = .ok (.invokevirtual 413, 3) := by decide +kernel
theorem dX10_layTile_26 : decode cX10_layTile 26 = .ok (.return_, 1) := by decide +kernel
theorem dX10_layJoker_0 : decode cX10_layJoker 0 = .ok (.aload_n 0, 1) := by decide +kernel
theorem dX10_layJoker_1 : decode cX10_layJoker 1 = .ok (.getfield 19, 3) := by decide +kernel
theorem dX10_layJoker_4 : decode cX10_layJoker 4 = .ok (.aload_n 0, 1) := by decide +kernel
theorem dX10_layJoker_5 : decode cX10_layJoker 5 = .ok (.getfield 61, 3) := by decide +kernel
theorem dX10_layJoker_8 : decode cX10_layJoker 8 = .ok (.iload_n 1, 1) := by decide +kernel
theorem dX10_layJoker_9 : decode cX10_layJoker 9 = .ok (.invokevirtual 416, 3) := by decide +kernel
theorem dX10_layJoker_12 : decode cX10_layJoker 12 = .ok (.aload_n 0, 1) := by decide +kernel
theorem dX10_layJoker_13 : decode cX10_layJoker 13 = .ok (.getfield 43, 3) := by decide +kernel
theorem dX10_layJoker_16 : decode cX10_layJoker 16 = .ok (.iconst 2, 1) := by decide +kernel
theorem dX10_layJoker_17 : decode cX10_layJoker 17 = .ok (.aload_n 0, 1) := by decide +kernel
theorem dX10_layJoker_18 : decode cX10_layJoker 18 = .ok (.getfield 61, 3) := by decide +kernel
theorem dX10_layJoker_21 : decode cX10_layJoker 21 = .ok (.iload_n 1, 1) := by decide +kernel
theorem dX10_layJoker_22 : decode cX10_layJoker 22 = .ok (.iconst 0, 1) := by decide +kernel
theorem dX10_layJoker_23 : decode cX10_layJoker 23 = .ok (.invokevirtual 413, 3) := by decide +kernel
theorem dX10_layJoker_26 : decode cX10_layJoker 26 = .ok (.return_, 1) := by decide +kernel
theorem dX10_swapJoker_0 : decode cX10_swapJoker 0 = .ok (.aload_n 0, 1) := by decide +kernel
theorem dX10_swapJoker_1 : decode cX10_swapJoker 1 = .ok (.getfield 19, 3) := by decide +kernel
theorem dX10_swapJoker_4 : decode cX10_swapJoker 4 = .ok (.aload_n 0, 1) := by decide +kernel
theorem dX10_swapJoker_5 : decode cX10_swapJoker 5 = .ok (.getfield 61, 3) := by decide +kernel
theorem dX10_swapJoker_8 : decode cX10_swapJoker 8 = .ok (.iload_n 1, 1) := by decide +kernel
theorem dX10_swapJoker_9 : decode cX10_swapJoker 9 = .ok (.invokevirtual 418, 3) := by decide +kernel
theorem dX10_swapJoker_12 : decode cX10_swapJoker 12 = .ok (.aload_n 0, 1) := by decide +kernel
theorem dX10_swapJoker_13 : decode cX10_swapJoker 13 = .ok (.getfield 43, 3) := by decide +kernel
theorem dX10_swapJoker_16 : decode cX10_swapJoker 16 = .ok (.iconst 3, 1) := by decide +kernel
theorem dX10_swapJoker_17 : decode cX10_swapJoker 17 = .ok (.aload_n 0, 1) := by decide +kernel
theorem dX10_swapJoker_18 : decode cX10_swapJoker 18 = .ok (.getfield 61, 3) := by decide +kernel
theorem dX10_swapJoker_21 : decode cX10_swapJoker 21 = .ok (.iload_n 1, 1) := by decide +kernel
theorem dX10_swapJoker_22 : decode cX10_swapJoker 22 = .ok (.iconst 0, 1) := by decide +kernel
theorem dX10_swapJoker_23 : decode cX10_swapJoker 23 = .ok (.invokevirtual 413, 3) := by decide +kernel
theorem dX10_swapJoker_26 : decode cX10_swapJoker 26 = .ok (.return_, 1) := by decide +kernel
theorem dX10_takeBack_0 : decode cX10_takeBack 0 = .ok (.aload_n 0, 1) := by decide +kernel
theorem dX10_takeBack_1 : decode cX10_takeBack 1 = .ok (.getfield 19, 3) := by decide +kernel
theorem dX10_takeBack_4 : decode cX10_takeBack 4 = .ok (.aload_n 0, 1) := by decide +kernel
theorem dX10_takeBack_5 : decode cX10_takeBack 5 = .ok (.getfield 61, 3) := by decide +kernel
theorem dX10_takeBack_8 : decode cX10_takeBack 8 = .ok (.invokevirtual 420, 3) := by decide +kernel
theorem dX10_takeBack_11 : decode cX10_takeBack 11 = .ok (.istore_n 1, 1) := by decide +kernel
theorem dX10_takeBack_12 : decode cX10_takeBack 12 = .ok (.aload_n 0, 1) := by decide +kernel
theorem dX10_takeBack_13 : decode cX10_takeBack 13 = .ok (.getfield 43, 3) := by decide +kernel
theorem dX10_takeBack_16 : decode cX10_takeBack 16 = .ok (.iconst 4, 1) := by decide +kernel
theorem dX10_takeBack_17 : decode cX10_takeBack 17 = .ok (.aload_n 0, 1) := by decide +kernel
theorem dX10_takeBack_18 : decode cX10_takeBack 18 = .ok (.getfield 61, 3) := by decide +kernel
theorem dX10_takeBack_21 : decode cX10_takeBack 21 = .ok (.iload_n 1, 1) := by decide +kernel
theorem dX10_takeBack_22 : decode cX10_takeBack 22 = .ok (.iconst 0, 1) := by decide +kernel
theorem dX10_takeBack_23 : decode cX10_takeBack 23 = .ok (.invokevirtual 413, 3) := by decide +kernel
theorem dX10_takeBack_26 : decode cX10_takeBack 26 = .ok (.return_, 1) := by decide +kernel
theorem dX10_move_0 : decode cX10_move 0 = .ok (.iload_n 1, 1) := by decide +kernel
theorem dX10_move_1 : decode cX10_move 1 = .ok (.tableswitch 116 1 5 #[35, 52, 69, 86, 101], 35) := by decide +kernel
theorem dX10_move_36 : decode cX10_move 36 = .ok (.aload_n 0, 1) := by decide +kernel
theorem dX10_move_37 : decode cX10_move 37 = .ok (.iload_n 2, 1) := by decide +kernel
theorem dX10_move_38 : decode cX10_move 38 = .ok (.invokevirtual 139, 3) := by decide +kernel
theorem dX10_move_41 : decode cX10_move 41 = .ok (.ifCond .ne 5, 3) := by decide +kernel
theorem dX10_move_44 : decode cX10_move 44 = .ok (.iconst 0, 1) := by decide +kernel
theorem dX10_move_45 : decode cX10_move 45 = .ok (.ireturn, 1) := by decide +kernel
theorem dX10_move_46 : decode cX10_move 46 = .ok (.aload_n 0, 1) := by decide +kernel
theorem dX10_move_47 : decode cX10_move 47 = .ok (.iload_n 2, 1) := by decide +kernel
theorem dX10_move_48 : decode cX10_move 48 = .ok (.invokevirtual 143, 3) := by decide +kernel
theorem dX10_move_51 : decode cX10_move 51 = .ok (.iconst 1, 1) := by decide +kernel
theorem dX10_move_52 : decode cX10_move 52 = .ok (.ireturn, 1) := by decide +kernel
theorem dX10_move_53 : decode cX10_move 53 = .ok (.aload_n 0, 1) := by decide +kernel
theorem dX10_move_54 : decode cX10_move 54 = .ok (.iload_n 2, 1) := by decide +kernel
theorem dX10_move_55 : decode cX10_move 55 = .ok (.invokevirtual 150, 3) := by decide +kernel
theorem dX10_move_58 : decode cX10_move 58 = .ok (.ifCond .ne 5, 3) := by decide +kernel
theorem dX10_move_61 : decode cX10_move 61 = .ok (.iconst 0, 1) := by decide +kernel
theorem dX10_move_62 : decode cX10_move 62 = .ok (.ireturn, 1) := by decide +kernel
theorem dX10_move_63 : decode cX10_move 63 = .ok (.aload_n 0, 1) := by decide +kernel
theorem dX10_move_64 : decode cX10_move 64 = .ok (.iload_n 2, 1) := by decide +kernel
theorem dX10_move_65 : decode cX10_move 65 = .ok (.invokevirtual 153, 3) := by decide +kernel
theorem dX10_move_68 : decode cX10_move 68 = .ok (.iconst 1, 1) := by decide +kernel
theorem dX10_move_69 : decode cX10_move 69 = .ok (.ireturn, 1) := by decide +kernel
theorem dX10_move_70 : decode cX10_move 70 = .ok (.aload_n 0, 1) := by decide +kernel
theorem dX10_move_71 : decode cX10_move 71 = .ok (.iload_n 2, 1) := by decide +kernel
theorem dX10_move_72 : decode cX10_move 72 = .ok (.invokevirtual 159, 3) := by decide +kernel
theorem dX10_move_75 : decode cX10_move 75 = .ok (.ifCond .ne 5, 3) := by decide +kernel
theorem dX10_move_78 : decode cX10_move 78 = .ok (.iconst 0, 1) := by decide +kernel
theorem dX10_move_79 : decode cX10_move 79 = .ok (.ireturn, 1) := by decide +kernel
theorem dX10_move_80 : decode cX10_move 80 = .ok (.aload_n 0, 1) := by decide +kernel
theorem dX10_move_81 : decode cX10_move 81 = .ok (.iload_n 2, 1) := by decide +kernel
theorem dX10_move_82 : decode cX10_move 82 = .ok (.invokevirtual 162, 3) := by decide +kernel
theorem dX10_move_85 : decode cX10_move 85 = .ok (.iconst 1, 1) := by decide +kernel
theorem dX10_move_86 : decode cX10_move 86 = .ok (.ireturn, 1) := by decide +kernel
theorem dX10_move_87 : decode cX10_move 87 = .ok (.aload_n 0, 1) := by decide +kernel
theorem dX10_move_88 : decode cX10_move 88 = .ok (.invokevirtual 168, 3) := by decide +kernel
theorem dX10_move_91 : decode cX10_move 91 = .ok (.ifCond .ne 5, 3) := by decide +kernel
theorem dX10_move_94 : decode cX10_move 94 = .ok (.iconst 0, 1) := by decide +kernel
theorem dX10_move_95 : decode cX10_move 95 = .ok (.ireturn, 1) := by decide +kernel
theorem dX10_move_96 : decode cX10_move 96 = .ok (.aload_n 0, 1) := by decide +kernel
theorem dX10_move_97 : decode cX10_move 97 = .ok (.invokevirtual 171, 3) := by decide +kernel
theorem dX10_move_100 : decode cX10_move 100 = .ok (.iconst 1, 1) := by decide +kernel
theorem dX10_move_101 : decode cX10_move 101 = .ok (.ireturn, 1) := by decide +kernel
theorem dX10_move_102 : decode cX10_move 102 = .ok (.aload_n 0, 1) := by decide +kernel
theorem dX10_move_103 : decode cX10_move 103 = .ok (.invokevirtual 177, 3) := by decide +kernel
theorem dX10_move_106 : decode cX10_move 106 = .ok (.ifCond .ne 5, 3) := by decide +kernel
theorem dX10_move_109 : decode cX10_move 109 = .ok (.iconst 0, 1) := by decide +kernel
theorem dX10_move_110 : decode cX10_move 110 = .ok (.ireturn, 1) := by decide +kernel
theorem dX10_move_111 : decode cX10_move 111 = .ok (.aload_n 0, 1) := by decide +kernel
theorem dX10_move_112 : decode cX10_move 112 = .ok (.invokevirtual 180, 3) := by decide +kernel
theorem dX10_move_115 : decode cX10_move 115 = .ok (.iconst 1, 1) := by decide +kernel
theorem dX10_move_116 : decode cX10_move 116 = .ok (.ireturn, 1) := by decide +kernel
theorem dX10_move_117 : decode cX10_move 117 = .ok (.aload_n 0, 1) := by decide +kernel
theorem dX10_move_118 : decode cX10_move 118 = .ok (.invokevirtual 81, 3) := by decide +kernel
theorem dX10_move_121 : decode cX10_move 121 = .ok (.ifCond .ne 5, 3) := by decide +kernel
theorem dX10_move_124 : decode cX10_move 124 = .ok (.iconst 0, 1) := by decide +kernel
theorem dX10_move_125 : decode cX10_move 125 = .ok (.ireturn, 1) := by decide +kernel
theorem dX10_move_126 : decode cX10_move 126 = .ok (.aload_n 0, 1) := by decide +kernel
theorem dX10_move_127 : decode cX10_move 127 = .ok (.bipush 6, 2) := by decide +kernel
theorem dX10_move_129 : decode cX10_move 129 = .ok (.invokevirtual 186, 3) := by decide +kernel
theorem dX10_move_132 : decode cX10_move 132 = .ok (.pop, 1) := by decide +kernel
theorem dX10_move_133 : decode cX10_move 133 = .ok (.iconst 1, 1) := by decide +kernel
theorem dX10_move_134 : decode cX10_move 134 = .ok (.ireturn, 1) := by decide +kernel
theorem dX10_endByLaying_0 : decode cX10_endByLaying 0 = .ok (.aload_n 0, 1) := by decide +kernel
theorem dX10_endByLaying_1 : decode cX10_endByLaying 1 = .ok (.getfield 61, 3) := by decide +kernel
theorem dX10_endByLaying_4 : decode cX10_endByLaying 4 = .ok (.istore_n 1, 1) := by decide +kernel
theorem dX10_endByLaying_5 : decode cX10_endByLaying 5 = .ok (.aload_n 0, 1) := by decide +kernel
theorem dX10_endByLaying_6 : decode cX10_endByLaying 6 = .ok (.getfield 43, 3) := by decide +kernel
theorem dX10_endByLaying_9 : decode cX10_endByLaying 9 = .ok (.iconst 5, 1) := by decide +kernel
theorem dX10_endByLaying_10 : decode cX10_endByLaying 10 = .ok (.iload_n 1, 1) := by decide +kernel
theorem dX10_endByLaying_11 : decode cX10_endByLaying 11 = .ok (.iconst (-1), 1) := by decide +kernel
theorem dX10_endByLaying_12 : decode cX10_endByLaying 12 = .ok (.iconst 0, 1) := by decide +kernel
theorem dX10_endByLaying_13 : decode cX10_endByLaying 13 = .ok (.invokevirtual 413, 3) := by decide +kernel
theorem dX10_endByLaying_16 : decode cX10_endByLaying 16 = .ok (.aload_n 0, 1) := by decide +kernel
theorem dX10_endByLaying_17 : decode cX10_endByLaying 17 = .ok (.getfield 29, 3) := by decide +kernel
theorem dX10_endByLaying_20 : decode cX10_endByLaying 20 = .ok (.getfield 401, 3) := by decide +kernel
theorem dX10_endByLaying_23 : decode cX10_endByLaying 23 = .ok (.iload_n 1, 1) := by decide +kernel
theorem dX10_endByLaying_24 : decode cX10_endByLaying 24 = .ok (.iconst 1, 1) := by decide +kernel
theorem dX10_endByLaying_25 : decode cX10_endByLaying 25 = .ok (.invokestatic 202, 3) := by decide +kernel
theorem dX10_endByLaying_28 : decode cX10_endByLaying 28 = .ok (.aload_n 0, 1) := by decide +kernel
theorem dX10_endByLaying_29 : decode cX10_endByLaying 29 = .ok (.getfield 19, 3) := by decide +kernel
theorem dX10_endByLaying_32 : decode cX10_endByLaying 32 = .ok (.invokevirtual 423, 3) := by decide +kernel
theorem dX10_endByLaying_35 : decode cX10_endByLaying 35 = .ok (.aload_n 0, 1) := by decide +kernel
theorem dX10_endByLaying_36 : decode cX10_endByLaying 36 = .ok (.iconst 0, 1) := by decide +kernel
theorem dX10_endByLaying_37 : decode cX10_endByLaying 37 = .ok (.putfield 130, 3) := by decide +kernel
theorem dX10_endByLaying_40 : decode cX10_endByLaying 40 = .ok (.aload_n 0, 1) := by decide +kernel
theorem dX10_endByLaying_41 : decode cX10_endByLaying 41 = .ok (.getfield 19, 3) := by decide +kernel
theorem dX10_endByLaying_44 : decode cX10_endByLaying 44 = .ok (.iload_n 1, 1) := by decide +kernel
theorem dX10_endByLaying_45 : decode cX10_endByLaying 45 = .ok (.invokevirtual 301, 3) := by decide +kernel
theorem dX10_endByLaying_48 : decode cX10_endByLaying 48 = .ok (.ifCond .ne 11, 3) := by decide +kernel
theorem dX10_endByLaying_51 : decode cX10_endByLaying 51 = .ok (.aload_n 0, 1) := by decide +kernel
theorem dX10_endByLaying_52 : decode cX10_endByLaying 52 = .ok (.iload_n 1, 1) := by decide +kernel
theorem dX10_endByLaying_53 : decode cX10_endByLaying 53 = .ok (.invokevirtual 426, 3) := by decide +kernel
theorem dX10_endByLaying_56 : decode cX10_endByLaying 56 = .ok (.goto 7, 3) := by decide +kernel
theorem dX10_endByLaying_59 : decode cX10_endByLaying 59 = .ok (.aload_n 0, 1) := by decide +kernel
theorem dX10_endByLaying_60 : decode cX10_endByLaying 60 = .ok (.invokevirtual 429, 3) := by decide +kernel
theorem dX10_endByLaying_63 : decode cX10_endByLaying 63 = .ok (.return_, 1) := by decide +kernel
theorem dX10_endByDrawing_0 : decode cX10_endByDrawing 0 = .ok (.aload_n 0, 1) := by decide +kernel
theorem dX10_endByDrawing_1 : decode cX10_endByDrawing 1 = .ok (.getfield 61, 3) := by decide +kernel
theorem dX10_endByDrawing_4 : decode cX10_endByDrawing 4 = .ok (.istore_n 2, 1) := by decide +kernel
theorem dX10_endByDrawing_5 : decode cX10_endByDrawing 5 = .ok (.aload_n 0, 1) := by decide +kernel
theorem dX10_endByDrawing_6 : decode cX10_endByDrawing 6 = .ok (.getfield 19, 3) := by decide +kernel
theorem dX10_endByDrawing_9 : decode cX10_endByDrawing 9 = .ok (.getfield 174, 3) := by decide +kernel
theorem dX10_endByDrawing_12 : decode cX10_endByDrawing 12 = .ok (.ifCond .le 7, 3) := by decide +kernel
theorem dX10_endByDrawing_15 : decode cX10_endByDrawing 15 = .ok (.iconst 1, 1) := by decide +kernel
theorem dX10_endByDrawing_16 : decode cX10_endByDrawing 16 = .ok (.goto 4, 3) := by decide +kernel
theorem dX10_endByDrawing_19 : decode cX10_endByDrawing 19 = .ok (.iconst 0, 1) := by decide +kernel
theorem dX10_endByDrawing_20 : decode cX10_endByDrawing 20 = .ok (.istore_n 3, 1) := by decide +kernel
theorem dX10_endByDrawing_21 : decode cX10_endByDrawing 21 = .ok (.aload_n 0, 1) := by decide +kernel
theorem dX10_endByDrawing_22 : decode cX10_endByDrawing 22 = .ok (.getfield 19, 3) := by decide +kernel
theorem dX10_endByDrawing_25 : decode cX10_endByDrawing 25 = .ok (.iload_n 2, 1) := by decide +kernel
theorem dX10_endByDrawing_26 : decode cX10_endByDrawing 26 = .ok (.invokevirtual 432, 3) := by decide +kernel
theorem dX10_endByDrawing_29 : decode cX10_endByDrawing 29 = .ok (.iload_n 3, 1) := by decide +kernel
theorem dX10_endByDrawing_30 : decode cX10_endByDrawing 30 = .ok (.ifCond .ne 23, 3) := by decide +kernel
theorem dX10_endByDrawing_33 : decode cX10_endByDrawing 33 = .ok (.aload_n 0, 1) := by decide +kernel
theorem dX10_endByDrawing_34 : decode cX10_endByDrawing 34 = .ok (.iload_n 2, 1) := by decide +kernel
theorem dX10_endByDrawing_35 : decode cX10_endByDrawing 35 = .ok (.invokevirtual 209, 3) := by decide +kernel
theorem dX10_endByDrawing_38 : decode cX10_endByDrawing 38 = .ok (.ifCond .eq 15, 3) := by decide +kernel
theorem dX10_endByDrawing_41 : decode cX10_endByDrawing 41 = .ok (.aload_n 0, 1) := by decide +kernel
theorem dX10_endByDrawing_42 : decode cX10_endByDrawing 42 = .ok (.getfield 29, 3) := by decide +kernel
theorem dX10_endByDrawing_45 : decode cX10_endByDrawing 45 = .ok (.iload_n 2, 1) := by decide +kernel
theorem dX10_endByDrawing_46 : decode cX10_endByDrawing 46 = .ok (.aload_n 0, 1) := by decide +kernel
theorem dX10_endByDrawing_47 : decode cX10_endByDrawing 47 = .ok (.invokevirtual 290, 3) := by decide +kernel
theorem dX10_endByDrawing_50 : decode cX10_endByDrawing 50 = .ok (.invokevirtual 435, 3) := by decide +kernel
theorem dX10_endByDrawing_53 : decode cX10_endByDrawing 53 = .ok (.aload_n 0, 1) := by decide +kernel
theorem dX10_endByDrawing_54 : decode cX10_endByDrawing 54 = .ok (.getfield 19, 3) := by decide +kernel
theorem dX10_endByDrawing_57 : decode cX10_endByDrawing 57 = .ok (.iload_n 2, 1) := by decide +kernel
theorem dX10_endByDrawing_58 : decode cX10_endByDrawing 58 = .ok (.iload_n 3, 1) := by decide +kernel
theorem dX10_endByDrawing_59 : decode cX10_endByDrawing 59 = .ok (.ifCond .eq 13, 3) := by decide +kernel
theorem dX10_endByDrawing_62 : decode cX10_endByDrawing 62 = .ok (.aload_n 0, 1) := by decide +kernel
theorem dX10_endByDrawing_63 : decode cX10_endByDrawing 63 = .ok (.getfield 12, 3) := by decide +kernel
theorem dX10_endByDrawing_66 : decode cX10_endByDrawing 66 = .ok (.getfield 100, 3) := by decide +kernel
theorem dX10_endByDrawing_69 : decode cX10_endByDrawing 69 = .ok (.goto 4, 3) := by decide +kernel
theorem dX10_endByDrawing_72 : decode cX10_endByDrawing 72 = .ok (.iconst 1, 1) := by decide +kernel
theorem dX10_endByDrawing_73 : decode cX10_endByDrawing 73 = .ok (.invokevirtual 439, 3) := by decide +kernel
theorem dX10_endByDrawing_76 : decode cX10_endByDrawing 76 = .ok (.istore 4, 2) := by decide +kernel
theorem dX10_endByDrawing_78 : decode cX10_endByDrawing 78 = .ok (.aload_n 0, 1) := by decide +kernel
theorem dX10_endByDrawing_79 : decode cX10_endByDrawing 79 = .ok (.getfield 29, 3) := by decide +kernel
theorem dX10_endByDrawing_82 : decode cX10_endByDrawing 82 = .ok (.iload_n 2, 1) := by decide +kernel
theorem dX10_endByDrawing_83 : decode cX10_endByDrawing 83 = .ok (.iload 4, 2) := by decide +kernel
theorem dX10_endByDrawing_85 : decode cX10_endByDrawing 85 = .ok (.invokevirtual 442, 3) := by decide +kernel
theorem dX10_endByDrawing_88 : decode cX10_endByDrawing 88 = .ok (.aload_n 0, 1) := by decide +kernel
theorem dX10_endByDrawing_89 : decode cX10_endByDrawing 89 = .ok (.getfield 43, 3) := by decide +kernel
theorem dX10_endByDrawing_92 : decode cX10_endByDrawing 92 = .ok (.iload_n 1, 1) := by decide +kernel
theorem dX10_endByDrawing_93 : decode cX10_endByDrawing 93 = .ok (.iload_n 2, 1) := by decide +kernel
theorem dX10_endByDrawing_94 : decode cX10_endByDrawing 94 = .ok (.iconst (-1), 1) := by decide +kernel
theorem dX10_endByDrawing_95 : decode cX10_endByDrawing 95 = .ok (.iload 4, 2) := by decide +kernel
theorem dX10_endByDrawing_97 : decode cX10_endByDrawing 97 = .ok (.invokevirtual 413, 3) := by decide +kernel
theorem dX10_endByDrawing_100 : decode cX10_endByDrawing 100 = .ok (.aload_n 0, 1) := by decide +kernel
theorem dX10_endByDrawing_101 : decode cX10_endByDrawing 101 = .ok (.iload 4, 2) := by decide +kernel
theorem dX10_endByDrawing_103 : decode cX10_endByDrawing 103 = .ok (.ifCond .ne 12, 3) := by decide +kernel
theorem dX10_endByDrawing_106 : decode cX10_endByDrawing 106 = .ok (.aload_n 0, 1) := by decide +kernel
theorem dX10_endByDrawing_107 : decode cX10_endByDrawing 107 = .ok (.getfield 130, 3) := by decide +kernel
theorem dX10_endByDrawing_110 : decode cX10_endByDrawing 110 = .ok (.iconst 1, 1) := by decide +kernel
theorem dX10_endByDrawing_111 : decode cX10_endByDrawing 111 = .ok (.iadd, 1) := by decide +kernel
theorem dX10_endByDrawing_112 : decode cX10_endByDrawing 112 = .ok (.goto 4, 3) := by decide +kernel
theorem dX10_endByDrawing_115 : decode cX10_endByDrawing 115 = .ok (.iconst 0, 1) := by decide +kernel
theorem dX10_endByDrawing_116 : decode cX10_endByDrawing 116 = .ok (.putfield 130, 3) := by decide +kernel
theorem dX10_endByDrawing_119 : decode cX10_endByDrawing 119 = .ok (.aload_n 0, 1) := by decide +kernel
theorem dX10_endByDrawing_120 : decode cX10_endByDrawing 120 = .ok (.getfield 130, 3) := by decide +kernel
theorem dX10_endByDrawing_123 : decode cX10_endByDrawing 123 = .ok (.aload_n 0, 1) := by decide +kernel
theorem dX10_endByDrawing_124 : decode cX10_endByDrawing 124 = .ok (.getfield 29, 3) := by decide +kernel
theorem dX10_endByDrawing_127 : decode cX10_endByDrawing 127 = .ok (.getfield 111, 3) := by decide +kernel
theorem dX10_endByDrawing_130 : decode cX10_endByDrawing 130 = .ok (.if_icmp .lt 24, 3) := by decide +kernel
theorem dX10_endByDrawing_133 : decode cX10_endByDrawing 133 = .ok (.aload_n 0, 1) := by decide +kernel
theorem dX10_endByDrawing_134 : decode cX10_endByDrawing 134 = .ok (.aload_n 0, 1) := by decide +kernel
theorem dX10_endByDrawing_135 : decode cX10_endByDrawing 135 = .ok (.getfield 19, 3) := by decide +kernel
theorem dX10_endByDrawing_138 : decode cX10_endByDrawing 138 = .ok (.aload_n 0, 1) := by decide +kernel
theorem dX10_endByDrawing_139 : decode cX10_endByDrawing 139 = .ok (.getfield 29, 3) := by decide +kernel
theorem dX10_endByDrawing_142 : decode cX10_endByDrawing 142 = .ok (.getfield 111, 3) := by decide +kernel
theorem dX10_endByDrawing_145 : decode cX10_endByDrawing 145 = .ok (.invokevirtual 445, 3) := by decide +kernel
theorem dX10_endByDrawing_148 : decode cX10_endByDrawing 148 = .ok (.invokevirtual 426, 3) := by decide +kernel
theorem dX10_endByDrawing_151 : decode cX10_endByDrawing 151 = .ok (.goto 7, 3) := by decide +kernel
theorem dX10_endByDrawing_154 : decode cX10_endByDrawing 154 = .ok (.aload_n 0, 1) := by decide +kernel
theorem dX10_endByDrawing_155 : decode cX10_endByDrawing 155 = .ok (.invokevirtual 429, 3) := by decide +kernel
theorem dX10_endByDrawing_158 : decode cX10_endByDrawing 158 = .ok (.iload 4, 2) := by decide +kernel
theorem dX10_endByDrawing_160 : decode cX10_endByDrawing 160 = .ok (.ireturn, 1) := by decide +kernel
theorem dX10_passOn_0 : decode cX10_passOn 0 = .ok (.aload_n 0, 1) := by decide +kernel
theorem dX10_passOn_1 : decode cX10_passOn 1 = .ok (.aload_n 0, 1) := by decide +kernel
theorem dX10_passOn_2 : decode cX10_passOn 2 = .ok (.getfield 61, 3) := by decide +kernel
theorem dX10_passOn_5 : decode cX10_passOn 5 = .ok (.iconst 1, 1) := by decide +kernel
theorem dX10_passOn_6 : decode cX10_passOn 6 = .ok (.iadd, 1) := by decide +kernel
theorem dX10_passOn_7 : decode cX10_passOn 7 = .ok (.aload_n 0, 1) := by decide +kernel
theorem dX10_passOn_8 : decode cX10_passOn 8 = .ok (.getfield 29, 3) := by decide +kernel
theorem dX10_passOn_11 : decode cX10_passOn 11 = .ok (.getfield 111, 3) := by decide +kernel
theorem dX10_passOn_14 : decode cX10_passOn 14 = .ok (.if_icmp .ge 12, 3) := by decide +kernel
theorem dX10_passOn_17 : decode cX10_passOn 17 = .ok (.aload_n 0, 1) := by decide +kernel
theorem dX10_passOn_18 : decode cX10_passOn 18 = .ok (.getfield 61, 3) := by decide +kernel
theorem dX10_passOn_21 : decode cX10_passOn 21 = .ok (.iconst 1, 1) := by decide +kernel
theorem dX10_passOn_22 : decode cX10_passOn 22 = .ok (.iadd, 1) := by decide +kernel
theorem dX10_passOn_23 : decode cX10_passOn 23 = .ok (.goto 4, 3) := by decide +kernel
theorem dX10_passOn_26 : decode cX10_passOn 26 = .ok (.iconst 0, 1) := by decide +kernel
theorem dX10_passOn_27 : decode cX10_passOn 27 = .ok (.putfield 61, 3) := by decide +kernel
theorem dX10_passOn_30 : decode cX10_passOn 30 = .ok (.return_, 1) := by decide +kernel
theorem dX10_endRound_0 : decode cX10_endRound 0 = .ok (.iconst 0, 1) := by decide +kernel
theorem dX10_endRound_1 : decode cX10_endRound 1 = .ok (.istore_n 2, 1) := by decide +kernel
theorem dX10_endRound_2 : decode cX10_endRound 2 = .ok (.iconst 0, 1) := by decide +kernel
theorem dX10_endRound_3 : decode cX10_endRound 3 = .ok (.istore_n 3, 1) := by decide +kernel
theorem dX10_endRound_4 : decode cX10_endRound 4 = .ok (.iload_n 3, 1) := by decide +kernel
theorem dX10_endRound_5 : decode cX10_endRound 5 = .ok (.aload_n 0, 1) := by decide +kernel
theorem dX10_endRound_6 : decode cX10_endRound 6 = .ok (.getfield 29, 3) := by decide +kernel
theorem dX10_endRound_9 : decode cX10_endRound 9 = .ok (.getfield 111, 3) := by decide +kernel
theorem dX10_endRound_12 : decode cX10_endRound 12 = .ok (.if_icmp .ge 54, 3) := by decide +kernel
theorem dX10_endRound_15 : decode cX10_endRound 15 = .ok (.iload_n 3, 1) := by decide +kernel
theorem dX10_endRound_16 : decode cX10_endRound 16 = .ok (.iload_n 1, 1) := by decide +kernel
theorem dX10_endRound_17 : decode cX10_endRound 17 = .ok (.if_icmp .eq 43, 3) := by decide +kernel
theorem dX10_endRound_20 : decode cX10_endRound 20 = .ok (.aload_n 0, 1) := by decide +kernel
theorem dX10_endRound_21 : decode cX10_endRound 21 = .ok (.getfield 19, 3) := by decide +kernel
theorem dX10_endRound_24 : decode cX10_endRound 24 = .ok (.iload_n 3, 1) := by decide +kernel
theorem dX10_endRound_25 : decode cX10_endRound 25 = .ok (.invokevirtual 347, 3) := by decide +kernel
theorem dX10_endRound_28 : decode cX10_endRound 28 = .ok (.istore 4, 2) := by decide +kernel
theorem dX10_endRound_30 : decode cX10_endRound 30 = .ok (.aload_n 0, 1) := by decide +kernel
theorem dX10_endRound_31 : decode cX10_endRound 31 = .ok (.getfield 29, 3) := by decide +kernel
theorem dX10_endRound_34 : decode cX10_endRound 34 = .ok (.getfield 344, 3) := by decide +kernel
theorem dX10_endRound_37 : decode cX10_endRound 37 = .ok (.iload_n 3, 1) := by decide +kernel
theorem dX10_endRound_38 : decode cX10_endRound 38 = .ok (.aload_n 0, 1) := by decide +kernel
theorem dX10_endRound_39 : decode cX10_endRound 39 = .ok (.getfield 29, 3) := by decide +kernel
theorem dX10_endRound_42 : decode cX10_endRound 42 = .ok (.getfield 344, 3) := by decide +kernel
theorem dX10_endRound_45 : decode cX10_endRound 45 = .ok (.iload_n 3, 1) := by decide +kernel
theorem dX10_endRound_46 : decode cX10_endRound 46 = .ok (.invokestatic 193, 3) := by decide +kernel
theorem dX10_endRound_49 : decode cX10_endRound 49 = .ok (.iload 4, 2) := by decide +kernel
theorem dX10_endRound_51 : decode cX10_endRound 51 = .ok (.isub, 1) := by decide +kernel
theorem dX10_endRound_52 : decode cX10_endRound 52 = .ok (.invokestatic 202, 3) := by decide +kernel
theorem dX10_endRound_55 : decode cX10_endRound 55 = .ok (.iload_n 2, 1) := by decide +kernel
theorem dX10_endRound_56 : decode cX10_endRound 56 = .ok (.iload 4, 2) := by decide +kernel
theorem dX10_endRound_58 : decode cX10_endRound 58 = .ok (.iadd, 1) := by decide +kernel
theorem dX10_endRound_59 : decode cX10_endRound 59 = .ok (.istore_n 2, 1) := by decide +kernel
theorem dX10_endRound_60 : decode cX10_endRound 60 = .ok (.iinc 3 1, 3) := by decide +kernel
theorem dX10_endRound_63 : decode cX10_endRound 63 = .ok (.goto (-59), 3) := by decide +kernel
theorem dX10_endRound_66 : decode cX10_endRound 66 = .ok (.aload_n 0, 1) := by decide +kernel
theorem dX10_endRound_67 : decode cX10_endRound 67 = .ok (.getfield 29, 3) := by decide +kernel
theorem dX10_endRound_70 : decode cX10_endRound 70 = .ok (.getfield 344, 3) := by decide +kernel
theorem dX10_endRound_73 : decode cX10_endRound 73 = .ok (.iload_n 1, 1) := by decide +kernel
theorem dX10_endRound_74 : decode cX10_endRound 74 = .ok (.aload_n 0, 1) := by decide +kernel
theorem dX10_endRound_75 : decode cX10_endRound 75 = .ok (.getfield 29, 3) := by decide +kernel
theorem dX10_endRound_78 : decode cX10_endRound 78 = .ok (.getfield 344, 3) := by decide +kernel
theorem dX10_endRound_81 : decode cX10_endRound 81 = .ok (.iload_n 1, 1) := by decide +kernel
theorem dX10_endRound_82 : decode cX10_endRound 82 = .ok (.invokestatic 193, 3) := by decide +kernel
theorem dX10_endRound_85 : decode cX10_endRound 85 = .ok (.iload_n 2, 1) := by decide +kernel
theorem dX10_endRound_86 : decode cX10_endRound 86 = .ok (.iadd, 1) := by decide +kernel
theorem dX10_endRound_87 : decode cX10_endRound 87 = .ok (.invokestatic 202, 3) := by decide +kernel
theorem dX10_endRound_90 : decode cX10_endRound 90 = .ok (.aload_n 0, 1) := by decide +kernel
theorem dX10_endRound_91 : decode cX10_endRound 91 = .ok (.getfield 29, 3) := by decide +kernel
theorem dX10_endRound_94 : decode cX10_endRound 94 = .ok (.getfield 353, 3) := by decide +kernel
theorem dX10_endRound_97 : decode cX10_endRound 97 = .ok (.iload_n 1, 1) := by decide +kernel
theorem dX10_endRound_98 : decode cX10_endRound 98 = .ok (.aload_n 0, 1) := by decide +kernel
theorem dX10_endRound_99 : decode cX10_endRound 99 = .ok (.getfield 29, 3) := by decide +kernel
theorem dX10_endRound_102 : decode cX10_endRound 102 = .ok (.getfield 353, 3) := by decide +kernel
theorem dX10_endRound_105 : decode cX10_endRound 105 = .ok (.iload_n 1, 1) := by decide +kernel
theorem dX10_endRound_106 : decode cX10_endRound 106 = .ok (.invokestatic 193, 3) := by decide +kernel
theorem dX10_endRound_109 : decode cX10_endRound 109 = .ok (.iconst 1, 1) := by decide +kernel
theorem dX10_endRound_110 : decode cX10_endRound 110 = .ok (.iadd, 1) := by decide +kernel
theorem dX10_endRound_111 : decode cX10_endRound 111 = .ok (.invokestatic 202, 3) := by decide +kernel
theorem dX10_endRound_114 : decode cX10_endRound 114 = .ok (.aload_n 0, 1) := by decide +kernel
theorem dX10_endRound_115 : decode cX10_endRound 115 = .ok (.getfield 29, 3) := by decide +kernel
theorem dX10_endRound_118 : decode cX10_endRound 118 = .ok (.iload_n 1, 1) := by decide +kernel
theorem dX10_endRound_119 : decode cX10_endRound 119 = .ok (.invokevirtual 448, 3) := by decide +kernel
theorem dX10_endRound_122 : decode cX10_endRound 122 = .ok (.aload_n 0, 1) := by decide +kernel
theorem dX10_endRound_123 : decode cX10_endRound 123 = .ok (.iconst (-1), 1) := by decide +kernel
theorem dX10_endRound_124 : decode cX10_endRound 124 = .ok (.putfield 61, 3) := by decide +kernel
theorem dX10_endRound_127 : decode cX10_endRound 127 = .ok (.aload_n 0, 1) := by decide +kernel
theorem dX10_endRound_128 : decode cX10_endRound 128 = .ok (.iload_n 1, 1) := by decide +kernel
theorem dX10_endRound_129 : decode cX10_endRound 129 = .ok (.putfield 65, 3) := by decide +kernel
theorem dX10_endRound_132 : decode cX10_endRound 132 = .ok (.aload_n 0, 1) := by decide +kernel
theorem dX10_endRound_133 : decode cX10_endRound 133 = .ok (.dup, 1) := by decide +kernel
theorem dX10_endRound_134 : decode cX10_endRound 134 = .ok (.getfield 394, 3) := by decide +kernel
theorem dX10_endRound_137 : decode cX10_endRound 137 = .ok (.iconst 1, 1) := by decide +kernel
theorem dX10_endRound_138 : decode cX10_endRound 138 = .ok (.iadd, 1) := by decide +kernel
theorem dX10_endRound_139 : decode cX10_endRound 139 = .ok (.putfield 394, 3) := by decide +kernel
theorem dX10_endRound_142 : decode cX10_endRound 142 = .ok (.return_, 1) := by decide +kernel
theorem dX10_replay_0 : decode cX10_replay 0 = .ok (.iload_n 1, 1) := by decide +kernel
theorem dX10_replay_1 : decode cX10_replay 1 = .ok (.tableswitch 93 1 5 #[35, 47, 59, 71, 83], 35) := by decide +kernel
theorem dX10_replay_36 : decode cX10_replay 36 = .ok (.aload_n 0, 1) := by decide +kernel
theorem dX10_replay_37 : decode cX10_replay 37 = .ok (.getfield 23, 3) := by decide +kernel
theorem dX10_replay_40 : decode cX10_replay 40 = .ok (.iload_n 2, 1) := by decide +kernel
theorem dX10_replay_41 : decode cX10_replay 41 = .ok (.iload_n 3, 1) := by decide +kernel
theorem dX10_replay_42 : decode cX10_replay 42 = .ok (.invokevirtual 410, 3) := by decide +kernel
theorem dX10_replay_45 : decode cX10_replay 45 = .ok (.goto 91, 3) := by decide +kernel
theorem dX10_replay_48 : decode cX10_replay 48 = .ok (.aload_n 0, 1) := by decide +kernel
theorem dX10_replay_49 : decode cX10_replay 49 = .ok (.getfield 23, 3) := by decide +kernel
theorem dX10_replay_52 : decode cX10_replay 52 = .ok (.iload_n 2, 1) := by decide +kernel
theorem dX10_replay_53 : decode cX10_replay 53 = .ok (.iload_n 3, 1) := by decide +kernel
theorem dX10_replay_54 : decode cX10_replay 54 = .ok (.invokevirtual 416, 3) := by decide +kernel
theorem dX10_replay_57 : decode cX10_replay 57 = .ok (.goto 79, 3) := by decide +kernel
theorem dX10_replay_60 : decode cX10_replay 60 = .ok (.aload_n 0, 1) := by decide +kernel
theorem dX10_replay_61 : decode cX10_replay 61 = .ok (.getfield 23, 3) := by decide +kernel
theorem dX10_replay_64 : decode cX10_replay 64 = .ok (.iload_n 2, 1) := by decide +kernel
theorem dX10_replay_65 : decode cX10_replay 65 = .ok (.iload_n 3, 1) := by decide +kernel
theorem dX10_replay_66 : decode cX10_replay 66 = .ok (.invokevirtual 418, 3) := by decide +kernel
theorem dX10_replay_69 : decode cX10_replay 69 = .ok (.goto 67, 3) := by decide +kernel
theorem dX10_replay_72 : decode cX10_replay 72 = .ok (.aload_n 0, 1) := by decide +kernel
theorem dX10_replay_73 : decode cX10_replay 73 = .ok (.getfield 23, 3) := by decide +kernel
theorem dX10_replay_76 : decode cX10_replay 76 = .ok (.iload_n 2, 1) := by decide +kernel
theorem dX10_replay_77 : decode cX10_replay 77 = .ok (.invokevirtual 420, 3) := by decide +kernel
theorem dX10_replay_80 : decode cX10_replay 80 = .ok (.pop, 1) := by decide +kernel
theorem dX10_replay_81 : decode cX10_replay 81 = .ok (.goto 55, 3) := by decide +kernel
theorem dX10_replay_84 : decode cX10_replay 84 = .ok (.aload_n 0, 1) := by decide +kernel
theorem dX10_replay_85 : decode cX10_replay 85 = .ok (.getfield 23, 3) := by decide +kernel
theorem dX10_replay_88 : decode cX10_replay 88 = .ok (.invokevirtual 423, 3) := by decide +kernel
theorem dX10_replay_91 : decode cX10_replay 91 = .ok (.goto 45, 3) := by decide +kernel
theorem dX10_replay_94 : decode cX10_replay 94 = .ok (.aload_n 0, 1) := by decide +kernel
theorem dX10_replay_95 : decode cX10_replay 95 = .ok (.getfield 23, 3) := by decide +kernel
theorem dX10_replay_98 : decode cX10_replay 98 = .ok (.getfield 174, 3) := by decide +kernel
theorem dX10_replay_101 : decode cX10_replay 101 = .ok (.ifCond .le 13, 3) := by decide +kernel
theorem dX10_replay_104 : decode cX10_replay 104 = .ok (.aload_n 0, 1) := by decide +kernel
theorem dX10_replay_105 : decode cX10_replay 105 = .ok (.getfield 12, 3) := by decide +kernel
theorem dX10_replay_108 : decode cX10_replay 108 = .ok (.getfield 100, 3) := by decide +kernel
theorem dX10_replay_111 : decode cX10_replay 111 = .ok (.goto 4, 3) := by decide +kernel
theorem dX10_replay_114 : decode cX10_replay 114 = .ok (.iconst 1, 1) := by decide +kernel
theorem dX10_replay_115 : decode cX10_replay 115 = .ok (.istore 4, 2) := by decide +kernel
theorem dX10_replay_117 : decode cX10_replay 117 = .ok (.aload_n 0, 1) := by decide +kernel
theorem dX10_replay_118 : decode cX10_replay 118 = .ok (.getfield 23, 3) := by decide +kernel
theorem dX10_replay_121 : decode cX10_replay 121 = .ok (.iload_n 2, 1) := by decide +kernel
theorem dX10_replay_122 : decode cX10_replay 122 = .ok (.invokevirtual 432, 3) := by decide +kernel
theorem dX10_replay_125 : decode cX10_replay 125 = .ok (.aload_n 0, 1) := by decide +kernel
theorem dX10_replay_126 : decode cX10_replay 126 = .ok (.getfield 23, 3) := by decide +kernel
theorem dX10_replay_129 : decode cX10_replay 129 = .ok (.iload_n 2, 1) := by decide +kernel
theorem dX10_replay_130 : decode cX10_replay 130 = .ok (.iload 4, 2) := by decide +kernel
theorem dX10_replay_132 : decode cX10_replay 132 = .ok (.invokevirtual 439, 3) := by decide +kernel
theorem dX10_replay_135 : decode cX10_replay 135 = .ok (.pop, 1) := by decide +kernel
theorem dX10_replay_136 : decode cX10_replay 136 = .ok (.return_, 1) := by decide +kernel
theorem dX10_autoBlocking_0 : decode cX10_autoBlocking 0 = .ok (.aload_n 0, 1) := by decide +kernel
theorem dX10_autoBlocking_1 : decode cX10_autoBlocking 1 = .ok (.invokevirtual 290, 3) := by decide +kernel
theorem dX10_autoBlocking_4 : decode cX10_autoBlocking 4 = .ok (.lstore_n 1, 1) := by decide +kernel
theorem dX10_autoBlocking_5 : decode cX10_autoBlocking 5 = .ok (.iconst 0, 1) := by decide +kernel
theorem dX10_autoBlocking_6 : decode cX10_autoBlocking 6 = .ok (.istore_n 3, 1) := by decide +kernel
theorem dX10_autoBlocking_7 : decode cX10_autoBlocking 7 = .ok (.iload_n 3, 1) := by decide +kernel
theorem dX10_autoBlocking_8 : decode cX10_autoBlocking 8 = .ok (.bipush 52, 2) := by decide +kernel
theorem dX10_autoBlocking_10 : decode cX10_autoBlocking 10 = .ok (.if_icmp .ge 36, 3) := by decide +kernel
theorem dX10_autoBlocking_13 : decode cX10_autoBlocking 13 = .ok (.lload_n 1, 1) := by decide +kernel
theorem dX10_autoBlocking_14 : decode cX10_autoBlocking 14 = .ok (.iload_n 3, 1) := by decide +kernel
theorem dX10_autoBlocking_15 : decode cX10_autoBlocking 15 = .ok (.invokestatic 294, 3) := by decide +kernel
theorem dX10_autoBlocking_18 : decode cX10_autoBlocking 18 = .ok (.ifCond .eq 22, 3) := by decide +kernel
theorem dX10_autoBlocking_21 : decode cX10_autoBlocking 21 = .ok (.aload_n 0, 1) := by decide +kernel
theorem dX10_autoBlocking_22 : decode cX10_autoBlocking 22 = .ok (.iload_n 3, 1) := by decide +kernel
theorem dX10_autoBlocking_23 : decode cX10_autoBlocking 23 = .ok (.invokevirtual 139, 3) := by decide +kernel
theorem dX10_autoBlocking_26 : decode cX10_autoBlocking 26 = .ok (.ifCond .eq 14, 3) := by decide +kernel
theorem dX10_autoBlocking_29 : decode cX10_autoBlocking 29 = .ok (.aload_n 0, 1) := by decide +kernel
theorem dX10_autoBlocking_30 : decode cX10_autoBlocking 30 = .ok (.iload_n 3, 1) := by decide +kernel
theorem dX10_autoBlocking_31 : decode cX10_autoBlocking 31 = .ok (.invokevirtual 143, 3) := by decide +kernel
theorem dX10_autoBlocking_34 : decode cX10_autoBlocking 34 = .ok (.aload_n 0, 1) := by decide +kernel
theorem dX10_autoBlocking_35 : decode cX10_autoBlocking 35 = .ok (.invokevirtual 180, 3) := by decide +kernel
theorem dX10_autoBlocking_38 : decode cX10_autoBlocking 38 = .ok (.iconst 1, 1) := by decide +kernel
theorem dX10_autoBlocking_39 : decode cX10_autoBlocking 39 = .ok (.ireturn, 1) := by decide +kernel
theorem dX10_autoBlocking_40 : decode cX10_autoBlocking 40 = .ok (.iinc 3 1, 3) := by decide +kernel
theorem dX10_autoBlocking_43 : decode cX10_autoBlocking 43 = .ok (.goto (-36), 3) := by decide +kernel
theorem dX10_autoBlocking_46 : decode cX10_autoBlocking 46 = .ok (.aload_n 0, 1) := by decide +kernel
theorem dX10_autoBlocking_47 : decode cX10_autoBlocking 47 = .ok (.bipush 6, 2) := by decide +kernel
theorem dX10_autoBlocking_49 : decode cX10_autoBlocking 49 = .ok (.invokevirtual 186, 3) := by decide +kernel
theorem dX10_autoBlocking_52 : decode cX10_autoBlocking 52 = .ok (.pop, 1) := by decide +kernel
theorem dX10_autoBlocking_53 : decode cX10_autoBlocking 53 = .ok (.iconst 0, 1) := by decide +kernel
theorem dX10_autoBlocking_54 : decode cX10_autoBlocking 54 = .ok (.ireturn, 1) := by decide +kernel
theorem dX10_autoByPlan_0 : decode cX10_autoByPlan 0 = .ok (.aload_n 0, 1) := by decide +kernel
theorem dX10_autoByPlan_1 : decode cX10_autoByPlan 1 = .ok (.aload_n 0, 1) := by decide +kernel
theorem dX10_autoByPlan_2 : decode cX10_autoByPlan 2 = .ok (.getfield 61, 3) := by decide +kernel
theorem dX10_autoByPlan_5 : decode cX10_autoByPlan 5 = .ok (.invokevirtual 276, 3) := by decide +kernel
theorem dX10_autoByPlan_8 : decode cX10_autoByPlan 8 = .ok (.aload_n 0, 1) := by decide +kernel
theorem dX10_autoByPlan_9 : decode cX10_autoByPlan 9 = .ok (.iload_n 1, 1) := by decide +kernel
theorem dX10_autoByPlan_10 : decode cX10_autoByPlan 10 = .ok (.invokevirtual 451, 3) := by decide +kernel
theorem dX10_autoByPlan_13 : decode cX10_autoByPlan 13 = .ok (.ifCond .ne 12, 3) := by decide +kernel
theorem dX10_autoByPlan_16 : decode cX10_autoByPlan 16 = .ok (.aload_n 0, 1) := by decide +kernel
theorem dX10_autoByPlan_17 : decode cX10_autoByPlan 17 = .ok (.bipush 6, 2) := by decide +kernel
theorem dX10_autoByPlan_19 : decode cX10_autoByPlan 19 = .ok (.invokevirtual 186, 3) := by decide +kernel
theorem dX10_autoByPlan_22 : decode cX10_autoByPlan 22 = .ok (.pop, 1) := by decide +kernel
theorem dX10_autoByPlan_23 : decode cX10_autoByPlan 23 = .ok (.iconst 0, 1) := by decide +kernel
theorem dX10_autoByPlan_24 : decode cX10_autoByPlan 24 = .ok (.ireturn, 1) := by decide +kernel
theorem dX10_autoByPlan_25 : decode cX10_autoByPlan 25 = .ok (.iconst 0, 1) := by decide +kernel
theorem dX10_autoByPlan_26 : decode cX10_autoByPlan 26 = .ok (.istore_n 2, 1) := by decide +kernel
theorem dX10_autoByPlan_27 : decode cX10_autoByPlan 27 = .ok (.iload_n 2, 1) := by decide +kernel
theorem dX10_autoByPlan_28 : decode cX10_autoByPlan 28 = .ok (.aload_n 0, 1) := by decide +kernel
theorem dX10_autoByPlan_29 : decode cX10_autoByPlan 29 = .ok (.getfield 57, 3) := by decide +kernel
theorem dX10_autoByPlan_32 : decode cX10_autoByPlan 32 = .ok (.getfield 283, 3) := by decide +kernel
theorem dX10_autoByPlan_35 : decode cX10_autoByPlan 35 = .ok (.if_icmp .ge 21, 3) := by decide +kernel
theorem dX10_autoByPlan_38 : decode cX10_autoByPlan 38 = .ok (.aload_n 0, 1) := by decide +kernel
theorem dX10_autoByPlan_39 : decode cX10_autoByPlan 39 = .ok (.aload_n 0, 1) := by decide +kernel
theorem dX10_autoByPlan_40 : decode cX10_autoByPlan 40 = .ok (.getfield 57, 3) := by decide +kernel
theorem dX10_autoByPlan_43 : decode cX10_autoByPlan 43 = .ok (.iload_n 2, 1) := by decide +kernel
theorem dX10_autoByPlan_44 : decode cX10_autoByPlan 44 = .ok (.invokevirtual 287, 3) := by decide +kernel
theorem dX10_autoByPlan_47 : decode cX10_autoByPlan 47 = .ok (.invokevirtual 143, 3) := by decide +kernel
theorem dX10_autoByPlan_50 : decode cX10_autoByPlan 50 = .ok (.iinc 2 1, 3) := by decide +kernel
theorem dX10_autoByPlan_53 : decode cX10_autoByPlan 53 = .ok (.goto (-26), 3) := by decide +kernel
theorem dX10_autoByPlan_56 : decode cX10_autoByPlan 56 = .ok (.aload_n 0, 1) := by decide +kernel
theorem dX10_autoByPlan_57 : decode cX10_autoByPlan 57 = .ok (.getfield 57, 3) := by decide +kernel
theorem dX10_autoByPlan_60 : decode cX10_autoByPlan 60 = .ok (.getfield 283, 3) := by decide +kernel
theorem dX10_autoByPlan_63 : decode cX10_autoByPlan 63 = .ok (.istore_n 2, 1) := by decide +kernel
theorem dX10_autoByPlan_64 : decode cX10_autoByPlan 64 = .ok (.aload_n 0, 1) := by decide +kernel
theorem dX10_autoByPlan_65 : decode cX10_autoByPlan 65 = .ok (.invokevirtual 180, 3) := by decide +kernel
theorem dX10_autoByPlan_68 : decode cX10_autoByPlan 68 = .ok (.iload_n 2, 1) := by decide +kernel
theorem dX10_autoByPlan_69 : decode cX10_autoByPlan 69 = .ok (.ireturn, 1) := by decide +kernel
theorem dX10_isPlanGood_0 : decode cX10_isPlanGood 0 = .ok (.aload_n 0, 1) := by decide +kernel
theorem dX10_isPlanGood_1 : decode cX10_isPlanGood 1 = .ok (.getfield 57, 3) := by decide +kernel
theorem dX10_isPlanGood_4 : decode cX10_isPlanGood 4 = .ok (.getfield 279, 3) := by decide +kernel
theorem dX10_isPlanGood_7 : decode cX10_isPlanGood 7 = .ok (.ifCond .eq 13, 3) := by decide +kernel
theorem dX10_isPlanGood_10 : decode cX10_isPlanGood 10 = .ok (.aload_n 0, 1) := by decide +kernel
theorem dX10_isPlanGood_11 : decode cX10_isPlanGood 11 = .ok (.getfield 57, 3) := by decide +kernel
theorem dX10_isPlanGood_14 : decode cX10_isPlanGood 14 = .ok (.getfield 283, 3) := by decide +kernel
theorem dX10_isPlanGood_17 : decode cX10_isPlanGood 17 = .ok (.ifCond .ne 5, 3) := by decide +kernel
theorem dX10_isPlanGood_20 : decode cX10_isPlanGood 20 = .ok (.iconst 0, 1) := by decide +kernel
theorem dX10_isPlanGood_21 : decode cX10_isPlanGood 21 = .ok (.ireturn, 1) := by decide +kernel
theorem dX10_isPlanGood_22 : decode cX10_isPlanGood 22 = .ok (.aload_n 0, 1) := by decide +kernel
theorem dX10_isPlanGood_23 : decode cX10_isPlanGood 23 = .ok (.aload_n 0, 1) := by decide +kernel
theorem dX10_isPlanGood_24 : decode cX10_isPlanGood 24 = .ok (.getfield 61, 3) := by decide +kernel
theorem dX10_isPlanGood_27 : decode cX10_isPlanGood 27 = .ok (.invokevirtual 209, 3) := by decide +kernel
theorem dX10_isPlanGood_30 : decode cX10_isPlanGood 30 = .ok (.ifCond .ne 22, 3) := by decide +kernel
theorem dX10_isPlanGood_33 : decode cX10_isPlanGood 33 = .ok (.aload_n 0, 1) := by decide +kernel
theorem dX10_isPlanGood_34 : decode cX10_isPlanGood 34 = .ok (.getfield 57, 3) := by decide +kernel
theorem dX10_isPlanGood_37 : decode cX10_isPlanGood 37 = .ok (.getfield 284, 3) := by decide +kernel
theorem dX10_isPlanGood_40 : decode cX10_isPlanGood 40 = .ok (.aload_n 0, 1) := by decide +kernel
theorem dX10_isPlanGood_41 : decode cX10_isPlanGood 41 = .ok (.getfield 12, 3) := by decide +kernel
theorem dX10_isPlanGood_44 : decode cX10_isPlanGood 44 = .ok (.getfield 97, 3) := by decide +kernel
theorem dX10_isPlanGood_47 : decode cX10_isPlanGood 47 = .ok (.if_icmp .ge 5, 3) := by decide +kernel
theorem dX10_isPlanGood_50 : decode cX10_isPlanGood 50 = .ok (.iconst 0, 1) := by decide +kernel
theorem dX10_isPlanGood_51 : decode cX10_isPlanGood 51 = .ok (.ireturn, 1) := by decide +kernel
theorem dX10_isPlanGood_52 : decode cX10_isPlanGood 52 = .ok (.iload_n 1, 1) := by decide +kernel
theorem dX10_isPlanGood_53 : decode cX10_isPlanGood 53 = .ok (.iconst 2, 1) := by decide +kernel
theorem dX10_isPlanGood_54 : decode cX10_isPlanGood 54 = .ok (.if_icmp .ne 35, 3) := by decide +kernel
theorem dX10_isPlanGood_57 : decode cX10_isPlanGood 57 = .ok (.aload_n 0, 1) := by decide +kernel
theorem dX10_isPlanGood_58 : decode cX10_isPlanGood 58 = .ok (.getfield 57, 3) := by decide +kernel
theorem dX10_isPlanGood_61 : decode cX10_isPlanGood 61 = .ok (.getfield 283, 3) := by decide +kernel
theorem dX10_isPlanGood_64 : decode cX10_isPlanGood 64 = .ok (.iconst 3, 1) := by decide +kernel
theorem dX10_isPlanGood_65 : decode cX10_isPlanGood 65 = .ok (.if_icmp .ge 24, 3) := by decide +kernel
theorem dX10_isPlanGood_68 : decode cX10_isPlanGood 68 = .ok (.aload_n 0, 1) := by decide +kernel
theorem dX10_isPlanGood_69 : decode cX10_isPlanGood 69 = .ok (.getfield 57, 3) := by decide +kernel
theorem dX10_isPlanGood_72 : decode cX10_isPlanGood 72 = .ok (.getfield 283, 3) := by decide +kernel
theorem dX10_isPlanGood_75 : decode cX10_isPlanGood 75 = .ok (.aload_n 0, 1) := by decide +kernel
theorem dX10_isPlanGood_76 : decode cX10_isPlanGood 76 = .ok (.getfield 19, 3) := by decide +kernel
theorem dX10_isPlanGood_79 : decode cX10_isPlanGood 79 = .ok (.aload_n 0, 1) := by decide +kernel
theorem dX10_isPlanGood_80 : decode cX10_isPlanGood 80 = .ok (.getfield 61, 3) := by decide +kernel
theorem dX10_isPlanGood_83 : decode cX10_isPlanGood 83 = .ok (.invokevirtual 301, 3) := by decide +kernel
theorem dX10_isPlanGood_86 : decode cX10_isPlanGood 86 = .ok (.if_icmp .ne 7, 3) := by decide +kernel
theorem dX10_isPlanGood_89 : decode cX10_isPlanGood 89 = .ok (.iconst 1, 1) := by decide +kernel
theorem dX10_isPlanGood_90 : decode cX10_isPlanGood 90 = .ok (.goto 4, 3) := by decide +kernel
theorem dX10_isPlanGood_93 : decode cX10_isPlanGood 93 = .ok (.iconst 0, 1) := by decide +kernel
theorem dX10_isPlanGood_94 : decode cX10_isPlanGood 94 = .ok (.ireturn, 1) := by decide +kernel
theorem dX10_takeTable_0 : decode cX10_takeTable 0 = .ok (.aload_n 0, 1) := by decide +kernel
theorem dX10_takeTable_1 : decode cX10_takeTable 1 = .ok (.getfield 50, 3) := by decide +kernel
theorem dX10_takeTable_4 : decode cX10_takeTable 4 = .ok (.invokevirtual 454, 3) := by decide +kernel
theorem dX10_takeTable_7 : decode cX10_takeTable 7 = .ok (.iconst 0, 1) := by decide +kernel
theorem dX10_takeTable_8 : decode cX10_takeTable 8 = .ok (.istore_n 1, 1) := by decide +kernel
theorem dX10_takeTable_9 : decode cX10_takeTable 9 = .ok (.iload_n 1, 1) := by decide +kernel
theorem dX10_takeTable_10 : decode cX10_takeTable 10 = .ok (.bipush 52, 2) := by decide +kernel
theorem dX10_takeTable_12 : decode cX10_takeTable 12 = .ok (.if_icmp .ge 25, 3) := by decide +kernel
theorem dX10_takeTable_15 : decode cX10_takeTable 15 = .ok (.aload_n 0, 1) := by decide +kernel
theorem dX10_takeTable_16 : decode cX10_takeTable 16 = .ok (.getfield 50, 3) := by decide +kernel
theorem dX10_takeTable_19 : decode cX10_takeTable 19 = .ok (.iload_n 1, 1) := by decide +kernel
theorem dX10_takeTable_20 : decode cX10_takeTable 20 = .ok (.aload_n 0, 1) := by decide +kernel
theorem dX10_takeTable_21 : decode cX10_takeTable 21 = .ok (.getfield 19, 3) := by decide +kernel
theorem dX10_takeTable_24 : decode cX10_takeTable 24 = .ok (.iload_n 1, 1) := by decide +kernel
theorem dX10_takeTable_25 : decode cX10_takeTable 25 = .ok (.invokevirtual 146, 3) := by decide +kernel
theorem dX10_takeTable_28 : decode cX10_takeTable 28 = .ok (.invokevirtual 455, 3) := by decide +kernel
theorem dX10_takeTable_31 : decode cX10_takeTable 31 = .ok (.iinc 1 1, 3) := by decide +kernel
theorem dX10_takeTable_34 : decode cX10_takeTable 34 = .ok (.goto (-25), 3) := by decide +kernel
theorem dX10_takeTable_37 : decode cX10_takeTable 37 = .ok (.return_, 1) := by decide +kernel
theorem dX10_takeLaid_0 : decode cX10_takeLaid 0 = .ok (.aload_n 0, 1) := by decide +kernel
theorem dX10_takeLaid_1 : decode cX10_takeLaid 1 = .ok (.getfield 50, 3) := by decide +kernel
theorem dX10_takeLaid_4 : decode cX10_takeLaid 4 = .ok (.invokevirtual 454, 3) := by decide +kernel
theorem dX10_takeLaid_7 : decode cX10_takeLaid 7 = .ok (.iconst 0, 1) := by decide +kernel
theorem dX10_takeLaid_8 : decode cX10_takeLaid 8 = .ok (.istore_n 1, 1) := by decide +kernel
theorem dX10_takeLaid_9 : decode cX10_takeLaid 9 = .ok (.iload_n 1, 1) := by decide +kernel
theorem dX10_takeLaid_10 : decode cX10_takeLaid 10 = .ok (.aload_n 0, 1) := by decide +kernel
theorem dX10_takeLaid_11 : decode cX10_takeLaid 11 = .ok (.getfield 19, 3) := by decide +kernel
theorem dX10_takeLaid_14 : decode cX10_takeLaid 14 = .ok (.getfield 174, 3) := by decide +kernel
theorem dX10_takeLaid_17 : decode cX10_takeLaid 17 = .ok (.if_icmp .ge 25, 3) := by decide +kernel
theorem dX10_takeLaid_20 : decode cX10_takeLaid 20 = .ok (.aload_n 0, 1) := by decide +kernel
theorem dX10_takeLaid_21 : decode cX10_takeLaid 21 = .ok (.getfield 50, 3) := by decide +kernel
theorem dX10_takeLaid_24 : decode cX10_takeLaid 24 = .ok (.aload_n 0, 1) := by decide +kernel
theorem dX10_takeLaid_25 : decode cX10_takeLaid 25 = .ok (.getfield 19, 3) := by decide +kernel
theorem dX10_takeLaid_28 : decode cX10_takeLaid 28 = .ok (.iload_n 1, 1) := by decide +kernel
theorem dX10_takeLaid_29 : decode cX10_takeLaid 29 = .ok (.invokevirtual 457, 3) := by decide +kernel
theorem dX10_takeLaid_32 : decode cX10_takeLaid 32 = .ok (.iconst 1, 1) := by decide +kernel
theorem dX10_takeLaid_33 : decode cX10_takeLaid 33 = .ok (.invokevirtual 455, 3) := by decide +kernel
theorem dX10_takeLaid_36 : decode cX10_takeLaid 36 = .ok (.iinc 1 1, 3) := by decide +kernel
theorem dX10_takeLaid_39 : decode cX10_takeLaid 39 = .ok (.goto (-30), 3) := by decide +kernel
theorem dX10_takeLaid_42 : decode cX10_takeLaid 42 = .ok (.return_, 1) := by decide +kernel
theorem dX10_findCuts_0 : decode cX10_findCuts 0 = .ok (.aload_n 0, 1) := by decide +kernel
theorem dX10_findCuts_1 : decode cX10_findCuts 1 = .ok (.getfield 68, 3) := by decide +kernel
theorem dX10_findCuts_4 : decode cX10_findCuts 4 = .ok (.aload_n 0, 1) := by decide +kernel
theorem dX10_findCuts_5 : decode cX10_findCuts 5 = .ok (.getfield 19, 3) := by decide +kernel
theorem dX10_findCuts_8 : decode cX10_findCuts 8 = .ok (.getfield 460, 3) := by decide +kernel
theorem dX10_findCuts_11 : decode cX10_findCuts 11 = .ok (.if_icmp .ne 4, 3) := by decide +kernel
theorem dX10_findCuts_14 : decode cX10_findCuts 14 = .ok (.return_, 1) := by decide +kernel
theorem dX10_findCuts_15 : decode cX10_findCuts 15 = .ok (.aload_n 0, 1) := by decide +kernel
theorem dX10_findCuts_16 : decode cX10_findCuts 16 = .ok (.invokevirtual 242, 3) := by decide +kernel
theorem dX10_findCuts_19 : decode cX10_findCuts 19 = .ok (.aload_n 0, 1) := by decide +kernel
theorem dX10_findCuts_20 : decode cX10_findCuts 20 = .ok (.getfield 50, 3) := by decide +kernel
theorem dX10_findCuts_23 : decode cX10_findCuts 23 = .ok (.aload_n 0, 1) := by decide +kernel
theorem dX10_findCuts_24 : decode cX10_findCuts 24 = .ok (.getfield 12, 3) := by decide +kernel
theorem dX10_findCuts_27 : decode cX10_findCuts 27 = .ok (.iconst 2, 1) := by decide +kernel
theorem dX10_findCuts_28 : decode cX10_findCuts 28 = .ok (.aload_n 0, 1) := by decide +kernel
theorem dX10_findCuts_29 : decode cX10_findCuts 29 = .ok (.getfield 12, 3) := by decide +kernel
theorem dX10_findCuts_32 : decode cX10_findCuts 32 = .ok (.getfield 88, 3) := by decide +kernel
theorem dX10_findCuts_35 : decode cX10_findCuts 35 = .ok (.iconst 1, 1) := by decide +kernel
theorem dX10_findCuts_36 : decode cX10_findCuts 36 = .ok (.iadd, 1) := by decide +kernel
theorem dX10_findCuts_37 : decode cX10_findCuts 37 = .ok (.invokevirtual 245, 3) := by decide +kernel
theorem dX10_findCuts_40 : decode cX10_findCuts 40 = .ok (.ifCond .le 7, 3) := by decide +kernel
theorem dX10_findCuts_43 : decode cX10_findCuts 43 = .ok (.iconst 1, 1) := by decide +kernel
theorem dX10_findCuts_44 : decode cX10_findCuts 44 = .ok (.goto 4, 3) := by decide +kernel
theorem dX10_findCuts_47 : decode cX10_findCuts 47 = .ok (.iconst 0, 1) := by decide +kernel
theorem dX10_findCuts_48 : decode cX10_findCuts 48 = .ok (.istore_n 1, 1) := by decide +kernel
theorem dX10_findCuts_49 : decode cX10_findCuts 49 = .ok (.aload_n 0, 1) := by decide +kernel
theorem dX10_findCuts_50 : decode cX10_findCuts 50 = .ok (.iload_n 1, 1) := by decide +kernel
theorem dX10_findCuts_51 : decode cX10_findCuts 51 = .ok (.ifCond .eq 19, 3) := by decide +kernel
theorem dX10_findCuts_54 : decode cX10_findCuts 54 = .ok (.aload_n 0, 1) := by decide +kernel
theorem dX10_findCuts_55 : decode cX10_findCuts 55 = .ok (.getfield 50, 3) := by decide +kernel
theorem dX10_findCuts_58 : decode cX10_findCuts 58 = .ok (.getfield 463, 3) := by decide +kernel
theorem dX10_findCuts_61 : decode cX10_findCuts 61 = .ok (.getfield 467, 3) := by decide +kernel
theorem dX10_findCuts_64 : decode cX10_findCuts 64 = .ok (.iconst 0, 1) := by decide +kernel
theorem dX10_findCuts_65 : decode cX10_findCuts 65 = .ok (.laload, 1) := by decide +kernel
theorem dX10_findCuts_66 : decode cX10_findCuts 66 = .ok (.l2i, 1) := by decide +kernel
theorem dX10_findCuts_67 : decode cX10_findCuts 67 = .ok (.goto 4, 3) := by decide +kernel
theorem dX10_findCuts_70 : decode cX10_findCuts 70 = .ok (.iconst 0, 1) := by decide +kernel
theorem dX10_findCuts_71 : decode cX10_findCuts 71 = .ok (.putfield 252, 3) := by decide +kernel
theorem dX10_findCuts_74 : decode cX10_findCuts 74 = .ok (.aload_n 0, 1) := by decide +kernel
theorem dX10_findCuts_75 : decode cX10_findCuts 75 = .ok (.iload_n 1, 1) := by decide +kernel
theorem dX10_findCuts_76 : decode cX10_findCuts 76 = .ok (.ifCond .eq 22, 3) := by decide +kernel
theorem dX10_findCuts_79 : decode cX10_findCuts 79 = .ok (.aload_n 0, 1) := by decide +kernel
theorem dX10_findCuts_80 : decode cX10_findCuts 80 = .ok (.getfield 50, 3) := by decide +kernel
theorem dX10_findCuts_83 : decode cX10_findCuts 83 = .ok (.getfield 463, 3) := by decide +kernel
theorem dX10_findCuts_86 : decode cX10_findCuts 86 = .ok (.getfield 473, 3) := by decide +kernel
theorem dX10_findCuts_89 : decode cX10_findCuts 89 = .ok (.iconst 0, 1) := by decide +kernel
theorem dX10_findCuts_90 : decode cX10_findCuts 90 = .ok (.laload, 1) := by decide +kernel
theorem dX10_findCuts_91 : decode cX10_findCuts 91 = .ok (.bipush 32, 2) := by decide +kernel
theorem dX10_findCuts_93 : decode cX10_findCuts 93 = .ok (.lushr, 1) := by decide +kernel
theorem dX10_findCuts_94 : decode cX10_findCuts 94 = .ok (.l2i, 1) := by decide +kernel
theorem dX10_findCuts_95 : decode cX10_findCuts 95 = .ok (.goto 4, 3) := by decide +kernel
theorem dX10_findCuts_98 : decode cX10_findCuts 98 = .ok (.iconst (-1), 1) := by decide +kernel
theorem dX10_findCuts_99 : decode cX10_findCuts 99 = .ok (.putfield 255, 3) := by decide +kernel
theorem dX10_findCuts_102 : decode cX10_findCuts 102 = .ok (.aload_n 0, 1) := by decide +kernel
theorem dX10_findCuts_103 : decode cX10_findCuts 103 = .ok (.iload_n 1, 1) := by decide +kernel
theorem dX10_findCuts_104 : decode cX10_findCuts 104 = .ok (.ifCond .eq 19, 3) := by decide +kernel
theorem dX10_findCuts_107 : decode cX10_findCuts 107 = .ok (.aload_n 0, 1) := by decide +kernel
theorem dX10_findCuts_108 : decode cX10_findCuts 108 = .ok (.getfield 50, 3) := by decide +kernel
theorem dX10_findCuts_111 : decode cX10_findCuts 111 = .ok (.getfield 463, 3) := by decide +kernel
theorem dX10_findCuts_114 : decode cX10_findCuts 114 = .ok (.getfield 473, 3) := by decide +kernel
theorem dX10_findCuts_117 : decode cX10_findCuts 117 = .ok (.iconst 0, 1) := by decide +kernel
theorem dX10_findCuts_118 : decode cX10_findCuts 118 = .ok (.laload, 1) := by decide +kernel
theorem dX10_findCuts_119 : decode cX10_findCuts 119 = .ok (.l2i, 1) := by decide +kernel
theorem dX10_findCuts_120 : decode cX10_findCuts 120 = .ok (.goto 4, 3) := by decide +kernel
theorem dX10_findCuts_123 : decode cX10_findCuts 123 = .ok (.iconst (-1), 1) := by decide +kernel
theorem dX10_findCuts_124 : decode cX10_findCuts 124 = .ok (.putfield 258, 3) := by decide +kernel
theorem dX10_findCuts_127 : decode cX10_findCuts 127 = .ok (.aload_n 0, 1) := by decide +kernel
theorem dX10_findCuts_128 : decode cX10_findCuts 128 = .ok (.aload_n 0, 1) := by decide +kernel
theorem dX10_findCuts_129 : decode cX10_findCuts 129 = .ok (.getfield 19, 3) := by decide +kernel
theorem dX10_findCuts_132 : decode cX10_findCuts 132 = .ok (.getfield 460, 3) := by decide +kernel
theorem dX10_findCuts_135 : decode cX10_findCuts 135 = .ok (.putfield 68, 3) := by decide +kernel
theorem dX10_findCuts_138 : decode cX10_findCuts 138 = .ok (.return_, 1) := by decide +kernel
theorem dX10_findAlone_0 : decode cX10_findAlone 0 = .ok (.aload_n 0, 1) := by decide +kernel
theorem dX10_findAlone_1 : decode cX10_findAlone 1 = .ok (.getfield 71, 3) := by decide +kernel
theorem dX10_findAlone_4 : decode cX10_findAlone 4 = .ok (.aload_n 0, 1) := by decide +kernel
theorem dX10_findAlone_5 : decode cX10_findAlone 5 = .ok (.getfield 19, 3) := by decide +kernel
theorem dX10_findAlone_8 : decode cX10_findAlone 8 = .ok (.getfield 460, 3) := by decide +kernel
theorem dX10_findAlone_11 : decode cX10_findAlone 11 = .ok (.if_icmp .eq 62, 3) := by decide +kernel
theorem dX10_findAlone_14 : decode cX10_findAlone 14 = .ok (.aload_n 0, 1) := by decide +kernel
theorem dX10_findAlone_15 : decode cX10_findAlone 15 = .ok (.invokevirtual 242, 3) := by decide +kernel
theorem dX10_findAlone_18 : decode cX10_findAlone 18 = .ok (.aload_n 0, 1) := by decide +kernel
theorem dX10_findAlone_19 : decode cX10_findAlone 19 = .ok (.aload_n 0, 1) := by decide +kernel
theorem dX10_findAlone_20 : decode cX10_findAlone 20 = .ok (.getfield 50, 3) := by decide +kernel
theorem dX10_findAlone_23 : decode cX10_findAlone 23 = .ok (.aload_n 0, 1) := by decide +kernel
theorem dX10_findAlone_24 : decode cX10_findAlone 24 = .ok (.getfield 12, 3) := by decide +kernel
theorem dX10_findAlone_27 : decode cX10_findAlone 27 = .ok (.iconst 3, 1) := by decide +kernel
theorem dX10_findAlone_28 : decode cX10_findAlone 28 = .ok (.aload_n 0, 1) := by decide +kernel
theorem dX10_findAlone_29 : decode cX10_findAlone 29 = .ok (.getfield 12, 3) := by decide +kernel
theorem dX10_findAlone_32 : decode cX10_findAlone 32 = .ok (.getfield 88, 3) := by decide +kernel
theorem dX10_findAlone_35 : decode cX10_findAlone 35 = .ok (.iconst 1, 1) := by decide +kernel
theorem dX10_findAlone_36 : decode cX10_findAlone 36 = .ok (.iadd, 1) := by decide +kernel
theorem dX10_findAlone_37 : decode cX10_findAlone 37 = .ok (.invokevirtual 245, 3) := by decide +kernel
theorem dX10_findAlone_40 : decode cX10_findAlone 40 = .ok (.ifCond .le 18, 3) := by decide +kernel
theorem dX10_findAlone_43 : decode cX10_findAlone 43 = .ok (.aload_n 0, 1) := by decide +kernel
theorem dX10_findAlone_44 : decode cX10_findAlone 44 = .ok (.getfield 50, 3) := by decide +kernel
theorem dX10_findAlone_47 : decode cX10_findAlone 47 = .ok (.getfield 463, 3) := by decide +kernel
theorem dX10_findAlone_50 : decode cX10_findAlone 50 = .ok (.getfield 467, 3) := by decide +kernel
theorem dX10_findAlone_53 : decode cX10_findAlone 53 = .ok (.iconst 0, 1) := by decide +kernel
theorem dX10_findAlone_54 : decode cX10_findAlone 54 = .ok (.laload, 1) := by decide +kernel
theorem dX10_findAlone_55 : decode cX10_findAlone 55 = .ok (.goto 4, 3) := by decide +kernel
theorem dX10_findAlone_58 : decode cX10_findAlone 58 = .ok (.lconst 0, 1) := by decide +kernel
theorem dX10_findAlone_59 : decode cX10_findAlone 59 = .ok (.putfield 476, 3) := by decide +kernel
theorem dX10_findAlone_62 : decode cX10_findAlone 62 = .ok (.aload_n 0, 1) := by decide +kernel
theorem dX10_findAlone_63 : decode cX10_findAlone 63 = .ok (.aload_n 0, 1) := by decide +kernel
theorem dX10_findAlone_64 : decode cX10_findAlone 64 = .ok (.getfield 19, 3) := by decide +kernel
theorem dX10_findAlone_67 : decode cX10_findAlone 67 = .ok (.getfield 460, 3) := by decide +kernel
theorem dX10_findAlone_70 : decode cX10_findAlone 70 = .ok (.putfield 71, 3) := by decide +kernel
theorem dX10_findAlone_73 : decode cX10_findAlone 73 = .ok (.aload_n 0, 1) := by decide +kernel
theorem dX10_findAlone_74 : decode cX10_findAlone 74 = .ok (.getfield 476, 3) := by decide +kernel
theorem dX10_findAlone_77 : decode cX10_findAlone 77 = .ok (.lreturn, 1) := by decide +kernel
theorem dX10_findPlan_0 : decode cX10_findPlan 0 = .ok (.aload_n 0, 1) := by decide +kernel
theorem dX10_findPlan_1 : decode cX10_findPlan 1 = .ok (.getfield 57, 3) := by decide +kernel
theorem dX10_findPlan_4 : decode cX10_findPlan 4 = .ok (.getfield 480, 3) := by decide +kernel
theorem dX10_findPlan_7 : decode cX10_findPlan 7 = .ok (.iload_n 1, 1) := by decide +kernel
theorem dX10_findPlan_8 : decode cX10_findPlan 8 = .ok (.if_icmp .ne 21, 3) := by decide +kernel
theorem dX10_findPlan_11 : decode cX10_findPlan 11 = .ok (.aload_n 0, 1) := by decide +kernel
theorem dX10_findPlan_12 : decode cX10_findPlan 12 = .ok (.getfield 57, 3) := by decide +kernel
theorem dX10_findPlan_15 : decode cX10_findPlan 15 = .ok (.getfield 483, 3) := by decide +kernel
theorem dX10_findPlan_18 : decode cX10_findPlan 18 = .ok (.aload_n 0, 1) := by decide +kernel
theorem dX10_findPlan_19 : decode cX10_findPlan 19 = .ok (.getfield 19, 3) := by decide +kernel
theorem dX10_findPlan_22 : decode cX10_findPlan 22 = .ok (.getfield 460, 3) := by decide +kernel
theorem dX10_findPlan_25 : decode cX10_findPlan 25 = .ok (.if_icmp .ne 4, 3) := by decide +kernel
theorem dX10_findPlan_28 : decode cX10_findPlan 28 = .ok (.return_, 1) := by decide +kernel
theorem dX10_findPlan_29 : decode cX10_findPlan 29 = .ok (.aload_n 0, 1) := by decide +kernel
theorem dX10_findPlan_30 : decode cX10_findPlan 30 = .ok (.iload_n 1, 1) := by decide +kernel
theorem dX10_findPlan_31 : decode cX10_findPlan 31 = .ok (.invokevirtual 209, 3) := by decide +kernel
theorem dX10_findPlan_34 : decode cX10_findPlan 34 = .ok (.istore_n 2, 1) := by decide +kernel
theorem dX10_findPlan_35 : decode cX10_findPlan 35 = .ok (.aload_n 0, 1) := by decide +kernel
theorem dX10_findPlan_36 : decode cX10_findPlan 36 = .ok (.getfield 50, 3) := by decide +kernel
theorem dX10_findPlan_39 : decode cX10_findPlan 39 = .ok (.invokevirtual 454, 3) := by decide +kernel
theorem dX10_findPlan_42 : decode cX10_findPlan 42 = .ok (.iconst 0, 1) := by decide +kernel
theorem dX10_findPlan_43 : decode cX10_findPlan 43 = .ok (.istore_n 3, 1) := by decide +kernel
theorem dX10_findPlan_44 : decode cX10_findPlan 44 = .ok (.iload_n 3, 1) := by decide +kernel
theorem dX10_findPlan_45 : decode cX10_findPlan 45 = .ok (.bipush 52, 2) := by decide +kernel
theorem dX10_findPlan_47 : decode cX10_findPlan 47 = .ok (.if_icmp .ge 61, 3) := by decide +kernel
theorem dX10_findPlan_50 : decode cX10_findPlan 50 = .ok (.aload_n 0, 1) := by decide +kernel
theorem dX10_findPlan_51 : decode cX10_findPlan 51 = .ok (.getfield 19, 3) := by decide +kernel
theorem dX10_findPlan_54 : decode cX10_findPlan 54 = .ok (.iload_n 3, 1) := by decide +kernel
theorem dX10_findPlan_55 : decode cX10_findPlan 55 = .ok (.invokevirtual 146, 3) := by decide +kernel
theorem dX10_findPlan_58 : decode cX10_findPlan 58 = .ok (.istore 4, 2) := by decide +kernel
theorem dX10_findPlan_60 : decode cX10_findPlan 60 = .ok (.aload_n 0, 1) := by decide +kernel
theorem dX10_findPlan_61 : decode cX10_findPlan 61 = .ok (.getfield 50, 3) := by decide +kernel
theorem dX10_findPlan_64 : decode cX10_findPlan 64 = .ok (.iload_n 3, 1) := by decide +kernel
theorem dX10_findPlan_65 : decode cX10_findPlan 65 = .ok (.iload_n 2, 1) := by decide +kernel
theorem dX10_findPlan_66 : decode cX10_findPlan 66 = .ok (.ifCond .eq 8, 3) := by decide +kernel
theorem dX10_findPlan_69 : decode cX10_findPlan 69 = .ok (.iload 4, 2) := by decide +kernel
theorem dX10_findPlan_71 : decode cX10_findPlan 71 = .ok (.goto 4, 3) := by decide +kernel
theorem dX10_findPlan_74 : decode cX10_findPlan 74 = .ok (.iconst 0, 1) := by decide +kernel
theorem dX10_findPlan_75 : decode cX10_findPlan 75 = .ok (.invokevirtual 455, 3) := by decide +kernel
theorem dX10_findPlan_78 : decode cX10_findPlan 78 = .ok (.aload_n 0, 1) := by decide +kernel
theorem dX10_findPlan_79 : decode cX10_findPlan 79 = .ok (.getfield 50, 3) := by decide +kernel
theorem dX10_findPlan_82 : decode cX10_findPlan 82 = .ok (.iload_n 3, 1) := by decide +kernel
theorem dX10_findPlan_83 : decode cX10_findPlan 83 = .ok (.aload_n 0, 1) := by decide +kernel
theorem dX10_findPlan_84 : decode cX10_findPlan 84 = .ok (.getfield 19, 3) := by decide +kernel
theorem dX10_findPlan_87 : decode cX10_findPlan 87 = .ok (.iload_n 1, 1) := by decide +kernel
theorem dX10_findPlan_88 : decode cX10_findPlan 88 = .ok (.iload_n 3, 1) := by decide +kernel
theorem dX10_findPlan_89 : decode cX10_findPlan 89 = .ok (.invokevirtual 333, 3) := by decide +kernel
theorem dX10_findPlan_92 : decode cX10_findPlan 92 = .ok (.iconst 2, 1) := by decide +kernel
theorem dX10_findPlan_93 : decode cX10_findPlan 93 = .ok (.iload 4, 2) := by decide +kernel
theorem dX10_findPlan_95 : decode cX10_findPlan 95 = .ok (.isub, 1) := by decide +kernel
theorem dX10_findPlan_96 : decode cX10_findPlan 96 = .ok (.invokestatic 311, 3) := by decide +kernel
theorem dX10_findPlan_99 : decode cX10_findPlan 99 = .ok (.invokevirtual 486, 3) := by decide +kernel
theorem dX10_findPlan_102 : decode cX10_findPlan 102 = .ok (.iinc 3 1, 3) := by decide +kernel
theorem dX10_findPlan_105 : decode cX10_findPlan 105 = .ok (.goto (-61), 3) := by decide +kernel
theorem dX10_findPlan_108 : decode cX10_findPlan 108 = .ok (.aload_n 0, 1) := by decide +kernel
theorem dX10_findPlan_109 : decode cX10_findPlan 109 = .ok (.getfield 50, 3) := by decide +kernel
theorem dX10_findPlan_112 : decode cX10_findPlan 112 = .ok (.iload_n 2, 1) := by decide +kernel
theorem dX10_findPlan_113 : decode cX10_findPlan 113 = .ok (.ifCond .ne 7, 3) := by decide +kernel
theorem dX10_findPlan_116 : decode cX10_findPlan 116 = .ok (.iconst 1, 1) := by decide +kernel
theorem dX10_findPlan_117 : decode cX10_findPlan 117 = .ok (.goto 4, 3) := by decide +kernel
theorem dX10_findPlan_120 : decode cX10_findPlan 120 = .ok (.iconst 0, 1) := by decide +kernel
theorem dX10_findPlan_121 : decode cX10_findPlan 121 = .ok (.putfield 489, 3) := by decide +kernel
theorem dX10_findPlan_124 : decode cX10_findPlan 124 = .ok (.aload_n 0, 1) := by decide +kernel
theorem dX10_findPlan_125 : decode cX10_findPlan 125 = .ok (.getfield 57, 3) := by decide +kernel
theorem dX10_findPlan_128 : decode cX10_findPlan 128 = .ok (.aload_n 0, 1) := by decide +kernel
theorem dX10_findPlan_129 : decode cX10_findPlan 129 = .ok (.getfield 50, 3) := by decide +kernel
theorem dX10_findPlan_132 : decode cX10_findPlan 132 = .ok (.aload_n 0, 1) := by decide +kernel
theorem dX10_findPlan_133 : decode cX10_findPlan 133 = .ok (.getfield 12, 3) := by decide +kernel
theorem dX10_findPlan_136 : decode cX10_findPlan 136 = .ok (.iconst 4, 1) := by decide +kernel
theorem dX10_findPlan_137 : decode cX10_findPlan 137 = .ok (.aload_n 0, 1) := by decide +kernel
theorem dX10_findPlan_138 : decode cX10_findPlan 138 = .ok (.getfield 12, 3) := by decide +kernel
theorem dX10_findPlan_141 : decode cX10_findPlan 141 = .ok (.getfield 88, 3) := by decide +kernel
theorem dX10_findPlan_144 : decode cX10_findPlan 144 = .ok (.iconst 1, 1) := by decide +kernel
theorem dX10_findPlan_145 : decode cX10_findPlan 145 = .ok (.iadd, 1) := by decide +kernel
theorem dX10_findPlan_146 : decode cX10_findPlan 146 = .ok (.invokevirtual 245, 3) := by decide +kernel
theorem dX10_findPlan_149 : decode cX10_findPlan 149 = .ok (.ifCond .le 7, 3) := by decide +kernel
theorem dX10_findPlan_152 : decode cX10_findPlan 152 = .ok (.iconst 1, 1) := by decide +kernel
theorem dX10_findPlan_153 : decode cX10_findPlan 153 = .ok (.goto 4, 3) := by decide +kernel
theorem dX10_findPlan_156 : decode cX10_findPlan 156 = .ok (.iconst 0, 1) := by decide +kernel
theorem dX10_findPlan_157 : decode cX10_findPlan 157 = .ok (.putfield 279, 3) := by decide +kernel
theorem dX10_findPlan_160 : decode cX10_findPlan 160 = .ok (.aload_n 0, 1) := by decide +kernel
theorem dX10_findPlan_161 : decode cX10_findPlan 161 = .ok (.getfield 57, 3) := by decide +kernel
theorem dX10_findPlan_164 : decode cX10_findPlan 164 = .ok (.iload_n 1, 1) := by decide +kernel
theorem dX10_findPlan_165 : decode cX10_findPlan 165 = .ok (.putfield 480, 3) := by decide +kernel
theorem dX10_findPlan_168 : decode cX10_findPlan 168 = .ok (.aload_n 0, 1) := by decide +kernel
theorem dX10_findPlan_169 : decode cX10_findPlan 169 = .ok (.getfield 57, 3) := by decide +kernel
theorem dX10_findPlan_172 : decode cX10_findPlan 172 = .ok (.aload_n 0, 1) := by decide +kernel
theorem dX10_findPlan_173 : decode cX10_findPlan 173 = .ok (.getfield 19, 3) := by decide +kernel
theorem dX10_findPlan_176 : decode cX10_findPlan 176 = .ok (.getfield 460, 3) := by decide +kernel
theorem dX10_findPlan_179 : decode cX10_findPlan 179 = .ok (.putfield 483, 3) := by decide +kernel
theorem dX10_findPlan_182 : decode cX10_findPlan 182 = .ok (.aload_n 0, 1) := by decide +kernel
theorem dX10_findPlan_183 : decode cX10_findPlan 183 = .ok (.getfield 57, 3) := by decide +kernel
theorem dX10_findPlan_186 : decode cX10_findPlan 186 = .ok (.aload_n 0, 1) := by decide +kernel
theorem dX10_findPlan_187 : decode cX10_findPlan 187 = .ok (.getfield 50, 3) := by decide +kernel
theorem dX10_findPlan_190 : decode cX10_findPlan 190 = .ok (.getfield 463, 3) := by decide +kernel
theorem dX10_findPlan_193 : decode cX10_findPlan 193 = .ok (.getfield 467, 3) := by decide +kernel
theorem dX10_findPlan_196 : decode cX10_findPlan 196 = .ok (.iconst 0, 1) := by decide +kernel
theorem dX10_findPlan_197 : decode cX10_findPlan 197 = .ok (.laload, 1) := by decide +kernel
theorem dX10_findPlan_198 : decode cX10_findPlan 198 = .ok (.aload_n 0, 1) := by decide +kernel
theorem dX10_findPlan_199 : decode cX10_findPlan 199 = .ok (.getfield 50, 3) := by decide +kernel
theorem dX10_findPlan_202 : decode cX10_findPlan 202 = .ok (.getfield 463, 3) := by decide +kernel
theorem dX10_findPlan_205 : decode cX10_findPlan 205 = .ok (.getfield 473, 3) := by decide +kernel
theorem dX10_findPlan_208 : decode cX10_findPlan 208 = .ok (.iconst 0, 1) := by decide +kernel
theorem dX10_findPlan_209 : decode cX10_findPlan 209 = .ok (.laload, 1) := by decide +kernel
theorem dX10_findPlan_210 : decode cX10_findPlan 210 = .ok (.invokevirtual 492, 3) := by decide +kernel
theorem dX10_findPlan_213 : decode cX10_findPlan 213 = .ok (.return_, 1) := by decide +kernel
theorem dX10_within_0 : decode cX10_within 0 = .ok (.iload_n 0, 1) := by decide +kernel
theorem dX10_within_1 : decode cX10_within 1 = .ok (.iload_n 1, 1) := by decide +kernel
theorem dX10_within_2 : decode cX10_within 2 = .ok (.if_icmp .lt 12, 3) := by decide +kernel
theorem dX10_within_5 : decode cX10_within 5 = .ok (.iload_n 0, 1) := by decide +kernel
theorem dX10_within_6 : decode cX10_within 6 = .ok (.iload_n 2, 1) := by decide +kernel
theorem dX10_within_7 : decode cX10_within 7 = .ok (.if_icmp .gt 7, 3) := by decide +kernel
theorem dX10_within_10 : decode cX10_within 10 = .ok (.iconst 1, 1) := by decide +kernel
theorem dX10_within_11 : decode cX10_within 11 = .ok (.goto 4, 3) := by decide +kernel
theorem dX10_within_14 : decode cX10_within 14 = .ok (.iconst 0, 1) := by decide +kernel
theorem dX10_within_15 : decode cX10_within 15 = .ok (.ireturn, 1) := by decide +kernel
theorem dX10_at_0 : decode cX10_at 0 = .ok (.iload_n 1, 1) := by decide +kernel
theorem dX10_at_1 : decode cX10_at 1 = .ok (.ifCond .lt 15, 3) := by decide +kernel
theorem dX10_at_4 : decode cX10_at 4 = .ok (.iload_n 1, 1) := by decide +kernel
theorem dX10_at_5 : decode cX10_at 5 = .ok (.aload_n 0, 1) := by decide +kernel
theorem dX10_at_6 : decode cX10_at 6 = .ok (.arraylength, 1) := by decide +kernel
theorem dX10_at_7 : decode cX10_at 7 = .ok (.if_icmp .ge 9, 3) := by decide +kernel
theorem dX10_at_10 : decode cX10_at 10 = .ok (.aload_n 0, 1) := by decide +kernel
theorem dX10_at_11 : decode cX10_at 11 = .ok (.iload_n 1, 1) := by decide +kernel
theorem dX10_at_12 : decode cX10_at 12 = .ok (.iaload, 1) := by decide +kernel
theorem dX10_at_13 : decode cX10_at 13 = .ok (.goto 4, 3) := by decide +kernel
theorem dX10_at_16 : decode cX10_at 16 = .ok (.iconst 0, 1) := by decide +kernel
theorem dX10_at_17 : decode cX10_at 17 = .ok (.ireturn, 1) := by decide +kernel
theorem dX10_set_0 : decode cX10_set 0 = .ok (.iload_n 1, 1) := by decide +kernel
theorem dX10_set_1 : decode cX10_set 1 = .ok (.ifCond .lt 13, 3) := by decide +kernel
theorem dX10_set_4 : decode cX10_set 4 = .ok (.iload_n 1, 1) := by decide +kernel
theorem dX10_set_5 : decode cX10_set 5 = .ok (.aload_n 0, 1) := by decide +kernel
theorem dX10_set_6 : decode cX10_set 6 = .ok (.arraylength, 1) := by decide +kernel
theorem dX10_set_7 : decode cX10_set 7 = .ok (.if_icmp .ge 7, 3) := by decide +kernel
theorem dX10_set_10 : decode cX10_set 10 = .ok (.aload_n 0, 1) := by decide +kernel
theorem dX10_set_11 : decode cX10_set 11 = .ok (.iload_n 1, 1) := by decide +kernel
theorem dX10_set_12 : decode cX10_set 12 = .ok (.iload_n 2, 1) := by decide +kernel
theorem dX10_set_13 : decode cX10_set 13 = .ok (.iastore, 1) := by decide +kernel
theorem dX10_set_14 : decode cX10_set 14 = .ok (.return_, 1) := by decide +kernel
theorem dX10_isIn_0 : decode cX10_isIn 0 = .ok (.iload_n 2, 1) := by decide +kernel
theorem dX10_isIn_1 : decode cX10_isIn 1 = .ok (.ifCond .lt 23, 3) := by decide +kernel
theorem dX10_isIn_4 : decode cX10_isIn 4 = .ok (.iload_n 2, 1) := by decide +kernel
theorem dX10_isIn_5 : decode cX10_isIn 5 = .ok (.bipush 52, 2) := by decide +kernel
theorem dX10_isIn_7 : decode cX10_isIn 7 = .ok (.if_icmp .ge 17, 3) := by decide +kernel
theorem dX10_isIn_10 : decode cX10_isIn 10 = .ok (.lload_n 0, 1) := by decide +kernel
theorem dX10_isIn_11 : decode cX10_isIn 11 = .ok (.iload_n 2, 1) := by decide +kernel
theorem dX10_isIn_12 : decode cX10_isIn 12 = .ok (.lushr, 1) := by decide +kernel
theorem dX10_isIn_13 : decode cX10_isIn 13 = .ok (.lconst 1, 1) := by decide +kernel
theorem dX10_isIn_14 : decode cX10_isIn 14 = .ok (.land, 1) := by decide +kernel
theorem dX10_isIn_15 : decode cX10_isIn 15 = .ok (.lconst 1, 1) := by decide +kernel
theorem dX10_isIn_16 : decode cX10_isIn 16 = .ok (.lcmp, 1) := by decide +kernel
theorem dX10_isIn_17 : decode cX10_isIn 17 = .ok (.ifCond .ne 7, 3) := by decide +kernel
theorem dX10_isIn_20 : decode cX10_isIn 20 = .ok (.iconst 1, 1) := by decide +kernel
theorem dX10_isIn_21 : decode cX10_isIn 21 = .ok (.goto 4, 3) := by decide +kernel
theorem dX10_isIn_24 : decode cX10_isIn 24 = .ok (.iconst 0, 1) := by decide +kernel
theorem dX10_isIn_25 : decode cX10_isIn 25 = .ok (.ireturn, 1) := by decide +kernel
theorem dX10_thousandths_0 : decode cX10_thousandths 0 = .ok (.lconst 1, 1) := by decide +kernel
theorem dX10_thousandths_1 : decode cX10_thousandths 1 = .ok (.lstore_n 3, 1) := by decide +kernel
theorem dX10_thousandths_2 : decode cX10_thousandths 2 = .ok (.lconst 1, 1) := by decide +kernel
theorem dX10_thousandths_3 : decode cX10_thousandths 3 = .ok (.lstore 5, 2) := by decide +kernel
theorem dX10_thousandths_5 : decode cX10_thousandths 5 = .ok (.iconst 0, 1) := by decide +kernel
theorem dX10_thousandths_6 : decode cX10_thousandths 6 = .ok (.istore 7, 2) := by decide +kernel
theorem dX10_thousandths_8 : decode cX10_thousandths 8 = .ok (.iload 7, 2) := by decide +kernel
theorem dX10_thousandths_10 : decode cX10_thousandths 10 = .ok (.iload_n 1, 1) := by decide +kernel
theorem dX10_thousandths_11 : decode cX10_thousandths 11 = .ok (.if_icmp .ge 37, 3) := by decide +kernel
theorem dX10_thousandths_14 : decode cX10_thousandths 14 = .ok (.lload_n 3, 1) := by decide +kernel
theorem dX10_thousandths_15 : decode cX10_thousandths 15 = .ok (.iconst 0, 1) := by decide +kernel
theorem dX10_thousandths_16 : decode cX10_thousandths 16 = .ok (.iload_n 0, 1) := by decide +kernel
theorem dX10_thousandths_17 : decode cX10_thousandths 17 = .ok (.iload 7, 2) := by decide +kernel
theorem dX10_thousandths_19 : decode cX10_thousandths 19 = .ok (.isub, 1) := by decide +kernel
theorem dX10_thousandths_20 : decode cX10_thousandths 20 = .ok (.invokestatic 197, 3) := by decide +kernel
theorem dX10_thousandths_23 : decode cX10_thousandths 23 = .ok (.i2l, 1) := by decide +kernel
theorem dX10_thousandths_24 : decode cX10_thousandths 24 = .ok (.lmul, 1) := by decide +kernel
theorem dX10_thousandths_25 : decode cX10_thousandths 25 = .ok (.lstore_n 3, 1) := by decide +kernel
theorem dX10_thousandths_26 : decode cX10_thousandths 26 = .ok (.lload 5, 2) := by decide +kernel
theorem dX10_thousandths_28 : decode cX10_thousandths 28 = .ok (.iconst 0, 1) := by decide +kernel
theorem dX10_thousandths_29 : decode cX10_thousandths 29 = .ok (.iload_n 0, 1) := by decide +kernel
theorem dX10_thousandths_30 : decode cX10_thousandths 30 = .ok (.iload_n 2, 1) := by decide +kernel
theorem dX10_thousandths_31 : decode cX10_thousandths 31 = .ok (.isub, 1) := by decide +kernel
theorem dX10_thousandths_32 : decode cX10_thousandths 32 = .ok (.iload 7, 2) := by decide +kernel
theorem dX10_thousandths_34 : decode cX10_thousandths 34 = .ok (.isub, 1) := by decide +kernel
theorem dX10_thousandths_35 : decode cX10_thousandths 35 = .ok (.invokestatic 197, 3) := by decide +kernel
theorem dX10_thousandths_38 : decode cX10_thousandths 38 = .ok (.i2l, 1) := by decide +kernel
theorem dX10_thousandths_39 : decode cX10_thousandths 39 = .ok (.lmul, 1) := by decide +kernel
theorem dX10_thousandths_40 : decode cX10_thousandths 40 = .ok (.lstore 5, 2) := by decide +kernel
theorem dX10_thousandths_42 : decode cX10_thousandths 42 = .ok (.iinc 7 1, 3) := by decide +kernel
theorem dX10_thousandths_45 : decode cX10_thousandths 45 = .ok (.goto (-37), 3) := by decide +kernel
theorem dX10_thousandths_48 : decode cX10_thousandths 48 = .ok (.lload_n 3, 1) := by decide +kernel
theorem dX10_thousandths_49 : decode cX10_thousandths 49 = .ok (.lconst 0, 1) := by decide +kernel
theorem dX10_thousandths_50 : decode cX10_thousandths 50 = .ok (.lcmp, 1) := by decide +kernel
theorem dX10_thousandths_51 : decode cX10_thousandths 51 = .ok (.ifCond .gt 7, 3) := by decide +kernel
theorem dX10_thousandths_54 : decode cX10_thousandths 54 = .ok (.iconst 0, 1) := by decide +kernel
theorem dX10_thousandths_55 : decode cX10_thousandths 55 = .ok (.goto 14, 3) := by decide +kernel
theorem dX10_thousandths_58 : decode cX10_thousandths 58 = .ok (.ldc2_w 496, 3) := by decide +kernel
theorem dX10_thousandths_61 : decode cX10_thousandths 61 = .ok (.lload_n 3, 1) := by decide +kernel
theorem dX10_thousandths_62 : decode cX10_thousandths 62 = .ok (.lload 5, 2) := by decide +kernel
theorem dX10_thousandths_64 : decode cX10_thousandths 64 = .ok (.lsub, 1) := by decide +kernel
theorem dX10_thousandths_65 : decode cX10_thousandths 65 = .ok (.lmul, 1) := by decide +kernel
theorem dX10_thousandths_66 : decode cX10_thousandths 66 = .ok (.lload_n 3, 1) := by decide +kernel
theorem dX10_thousandths_67 : decode cX10_thousandths 67 = .ok (.ldiv, 1) := by decide +kernel
theorem dX10_thousandths_68 : decode cX10_thousandths 68 = .ok (.l2i, 1) := by decide +kernel
theorem dX10_thousandths_69 : decode cX10_thousandths 69 = .ok (.ireturn, 1) := by decide +kernel
