theorem dX0_count_0 : decode cX0_count 0 = .ok (.iload_n 1, 1) := by decide +kernel
theorem dX0_count_1 : decode cX0_count 1 = .ok (.istore 5, 2) := by decide +kernel
theorem dX0_count_3 : decode cX0_count 3 = .ok (.iload 5, 2) := by decide +kernel
theorem dX0_count_5 : decode cX0_count 5 = .ok (.bipush 52, 2) := by decide +kernel
theorem dX0_count_7 : decode cX0_count 7 = .ok (.if_icmp .ge 18, 3) := by decide +kernel
theorem dX0_count_10 : decode cX0_count 10 = .ok (.aload_n 0, 1) := by decide +kernel
theorem dX0_count_11 : decode cX0_count 11 = .ok (.iload 5, 2) := by decide +kernel
theorem dX0_count_13 : decode cX0_count 13 = .ok (.invokestatic 9, 3) := by decide +kernel
theorem dX0_count_16 : decode cX0_count 16 = .ok (.ifCond .ne 9, 3) := by decide +kernel
theorem dX0_count_19 : decode cX0_count 19 = .ok (.iinc 5 1, 3) := by decide +kernel
theorem dX0_count_22 : decode cX0_count 22 = .ok (.goto (-19), 3) := by decide +kernel
theorem dX0_count_25 : decode cX0_count 25 = .ok (.iload 5, 2) := by decide +kernel
theorem dX0_count_27 : decode cX0_count 27 = .ok (.bipush 52, 2) := by decide +kernel
theorem dX0_count_29 : decode cX0_count 29 = .ok (.if_icmp .lt 5, 3) := by decide +kernel
theorem dX0_count_32 : decode cX0_count 32 = .ok (.iconst 1, 1) := by decide +kernel
theorem dX0_count_33 : decode cX0_count 33 = .ok (.ireturn, 1) := by decide +kernel
theorem dX0_count_34 : decode cX0_count 34 = .ok (.iload 4, 2) := by decide +kernel
theorem dX0_count_36 : decode cX0_count 36 = .ok (.iconst 4, 1) := by decide +kernel
theorem dX0_count_37 : decode cX0_count 37 = .ok (.if_icmp .lt 5, 3) := by decide +kernel
theorem dX0_count_40 : decode cX0_count 40 = .ok (.iconst 0, 1) := by decide +kernel
theorem dX0_count_41 : decode cX0_count 41 = .ok (.ireturn, 1) := by decide +kernel
theorem dX0_count_42 : decode cX0_count 42 = .ok (.iconst 0, 1) := by decide +kernel
theorem dX0_count_43 : decode cX0_count 43 = .ok (.istore 6, 2) := by decide +kernel
theorem dX0_count_45 : decode cX0_count 45 = .ok (.iload 5, 2) := by decide +kernel
theorem dX0_count_47 : decode cX0_count 47 = .ok (.iload_n 1, 1) := by decide +kernel
theorem dX0_count_48 : decode cX0_count 48 = .ok (.if_icmp .ne 7, 3) := by decide +kernel
theorem dX0_count_51 : decode cX0_count 51 = .ok (.iload_n 2, 1) := by decide +kernel
theorem dX0_count_52 : decode cX0_count 52 = .ok (.goto 4, 3) := by decide +kernel
theorem dX0_count_55 : decode cX0_count 55 = .ok (.iconst 0, 1) := by decide +kernel
theorem dX0_count_56 : decode cX0_count 56 = .ok (.istore 7, 2) := by decide +kernel
theorem dX0_count_58 : decode cX0_count 58 = .ok (.iload 7, 2) := by decide +kernel
theorem dX0_count_60 : decode cX0_count 60 = .ok (.bipush 19, 2) := by decide +kernel
theorem dX0_count_62 : decode cX0_count 62 = .ok (.if_icmp .ge 57, 3) := by decide +kernel
theorem dX0_count_65 : decode cX0_count 65 = .ok (.aload_n 0, 1) := by decide +kernel
theorem dX0_count_66 : decode cX0_count 66 = .ok (.iload 5, 2) := by decide +kernel
theorem dX0_count_68 : decode cX0_count 68 = .ok (.iload 7, 2) := by decide +kernel
theorem dX0_count_70 : decode cX0_count 70 = .ok (.iload_n 3, 1) := by decide +kernel
theorem dX0_count_71 : decode cX0_count 71 = .ok (.invokestatic 15, 3) := by decide +kernel
theorem dX0_count_74 : decode cX0_count 74 = .ok (.ifCond .eq 39, 3) := by decide +kernel
theorem dX0_count_77 : decode cX0_count 77 = .ok (.aload_n 0, 1) := by decide +kernel
theorem dX0_count_78 : decode cX0_count 78 = .ok (.iload 5, 2) := by decide +kernel
theorem dX0_count_80 : decode cX0_count 80 = .ok (.iload 7, 2) := by decide +kernel
theorem dX0_count_82 : decode cX0_count 82 = .ok (.iconst 1, 1) := by decide +kernel
theorem dX0_count_83 : decode cX0_count 83 = .ok (.invokestatic 19, 3) := by decide +kernel
theorem dX0_count_86 : decode cX0_count 86 = .ok (.iload 6, 2) := by decide +kernel
theorem dX0_count_88 : decode cX0_count 88 = .ok (.aload_n 0, 1) := by decide +kernel
theorem dX0_count_89 : decode cX0_count 89 = .ok (.iload 5, 2) := by decide +kernel
theorem dX0_count_91 : decode cX0_count 91 = .ok (.iload 7, 2) := by decide +kernel
theorem dX0_count_93 : decode cX0_count 93 = .ok (.iload_n 3, 1) := by decide +kernel
theorem dX0_count_94 : decode cX0_count 94 = .ok (.iload 4, 2) := by decide +kernel
theorem dX0_count_96 : decode cX0_count 96 = .ok (.iconst 1, 1) := by decide +kernel
theorem dX0_count_97 : decode cX0_count 97 = .ok (.iadd, 1) := by decide +kernel
theorem dX0_count_98 : decode cX0_count 98 = .ok (.invokestatic 23, 3) := by decide +kernel
theorem dX0_count_101 : decode cX0_count 101 = .ok (.iadd, 1) := by decide +kernel
theorem dX0_count_102 : decode cX0_count 102 = .ok (.istore 6, 2) := by decide +kernel
theorem dX0_count_104 : decode cX0_count 104 = .ok (.aload_n 0, 1) := by decide +kernel
theorem dX0_count_105 : decode cX0_count 105 = .ok (.iload 5, 2) := by decide +kernel
theorem dX0_count_107 : decode cX0_count 107 = .ok (.iload 7, 2) := by decide +kernel
theorem dX0_count_109 : decode cX0_count 109 = .ok (.iconst (-1), 1) := by decide +kernel
theorem dX0_count_110 : decode cX0_count 110 = .ok (.invokestatic 19, 3) := by decide +kernel
theorem dX0_count_113 : decode cX0_count 113 = .ok (.iinc 7 1, 3) := by decide +kernel
theorem dX0_count_116 : decode cX0_count 116 = .ok (.goto (-58), 3) := by decide +kernel
theorem dX0_count_119 : decode cX0_count 119 = .ok (.iload 6, 2) := by decide +kernel
theorem dX0_count_121 : decode cX0_count 121 = .ok (.ireturn, 1) := by decide +kernel
theorem dX0_fits_0 : decode cX0_fits 0 = .ok (.iload_n 2, 1) := by decide +kernel
theorem dX0_fits_1 : decode cX0_fits 1 = .ok (.bipush 14, 2) := by decide +kernel
theorem dX0_fits_3 : decode cX0_fits 3 = .ok (.if_icmp .ge 34, 3) := by decide +kernel
theorem dX0_fits_6 : decode cX0_fits 6 = .ok (.iload_n 2, 1) := by decide +kernel
theorem dX0_fits_7 : decode cX0_fits 7 = .ok (.iload_n 3, 1) := by decide +kernel
theorem dX0_fits_8 : decode cX0_fits 8 = .ok (.if_icmp .lt 27, 3) := by decide +kernel
theorem dX0_fits_11 : decode cX0_fits 11 = .ok (.iload_n 1, 1) := by decide +kernel
theorem dX0_fits_12 : decode cX0_fits 12 = .ok (.bipush 13, 2) := by decide +kernel
theorem dX0_fits_14 : decode cX0_fits 14 = .ok (.irem, 1) := by decide +kernel
theorem dX0_fits_15 : decode cX0_fits 15 = .ok (.iload_n 2, 1) := by decide +kernel
theorem dX0_fits_16 : decode cX0_fits 16 = .ok (.iadd, 1) := by decide +kernel
theorem dX0_fits_17 : decode cX0_fits 17 = .ok (.bipush 13, 2) := by decide +kernel
theorem dX0_fits_19 : decode cX0_fits 19 = .ok (.if_icmp .gt 16, 3) := by decide +kernel
theorem dX0_fits_22 : decode cX0_fits 22 = .ok (.aload_n 0, 1) := by decide +kernel
theorem dX0_fits_23 : decode cX0_fits 23 = .ok (.iload_n 1, 1) := by decide +kernel
theorem dX0_fits_24 : decode cX0_fits 24 = .ok (.iload_n 2, 1) := by decide +kernel
theorem dX0_fits_25 : decode cX0_fits 25 = .ok (.invokestatic 27, 3) := by decide +kernel
theorem dX0_fits_28 : decode cX0_fits 28 = .ok (.ifCond .eq 7, 3) := by decide +kernel
theorem dX0_fits_31 : decode cX0_fits 31 = .ok (.iconst 1, 1) := by decide +kernel
theorem dX0_fits_32 : decode cX0_fits 32 = .ok (.goto 4, 3) := by decide +kernel
theorem dX0_fits_35 : decode cX0_fits 35 = .ok (.iconst 0, 1) := by decide +kernel
theorem dX0_fits_36 : decode cX0_fits 36 = .ok (.ireturn, 1) := by decide +kernel
theorem dX0_fits_37 : decode cX0_fits 37 = .ok (.getstatic 31, 3) := by decide +kernel
theorem dX0_fits_40 : decode cX0_fits 40 = .ok (.iload_n 2, 1) := by decide +kernel
theorem dX0_fits_41 : decode cX0_fits 41 = .ok (.bipush 14, 2) := by decide +kernel
theorem dX0_fits_43 : decode cX0_fits 43 = .ok (.isub, 1) := by decide +kernel
theorem dX0_fits_44 : decode cX0_fits 44 = .ok (.iconst 1, 1) := by decide +kernel
theorem dX0_fits_45 : decode cX0_fits 45 = .ok (.iadd, 1) := by decide +kernel
theorem dX0_fits_46 : decode cX0_fits 46 = .ok (.invokestatic 9, 3) := by decide +kernel
theorem dX0_fits_49 : decode cX0_fits 49 = .ok (.istore 4, 2) := by decide +kernel
theorem dX0_fits_51 : decode cX0_fits 51 = .ok (.iload 4, 2) := by decide +kernel
theorem dX0_fits_53 : decode cX0_fits 53 = .ok (.invokestatic 35, 3) := by decide +kernel
theorem dX0_fits_56 : decode cX0_fits 56 = .ok (.iload_n 1, 1) := by decide +kernel
theorem dX0_fits_57 : decode cX0_fits 57 = .ok (.bipush 13, 2) := by decide +kernel
theorem dX0_fits_59 : decode cX0_fits 59 = .ok (.idiv, 1) := by decide +kernel
theorem dX0_fits_60 : decode cX0_fits 60 = .ok (.if_icmp .ne 20, 3) := by decide +kernel
theorem dX0_fits_63 : decode cX0_fits 63 = .ok (.aload_n 0, 1) := by decide +kernel
theorem dX0_fits_64 : decode cX0_fits 64 = .ok (.iload_n 1, 1) := by decide +kernel
theorem dX0_fits_65 : decode cX0_fits 65 = .ok (.bipush 13, 2) := by decide +kernel
theorem dX0_fits_67 : decode cX0_fits 67 = .ok (.irem, 1) := by decide +kernel
theorem dX0_fits_68 : decode cX0_fits 68 = .ok (.iload 4, 2) := by decide +kernel
theorem dX0_fits_70 : decode cX0_fits 70 = .ok (.invokestatic 39, 3) := by decide +kernel
theorem dX0_fits_73 : decode cX0_fits 73 = .ok (.ifCond .eq 7, 3) := by decide +kernel
theorem dX0_fits_76 : decode cX0_fits 76 = .ok (.iconst 1, 1) := by decide +kernel
theorem dX0_fits_77 : decode cX0_fits 77 = .ok (.goto 4, 3) := by decide +kernel
theorem dX0_fits_80 : decode cX0_fits 80 = .ok (.iconst 0, 1) := by decide +kernel
theorem dX0_fits_81 : decode cX0_fits 81 = .ok (.ireturn, 1) := by decide +kernel
theorem dX0_hasRun_0 : decode cX0_hasRun 0 = .ok (.iconst 0, 1) := by decide +kernel
theorem dX0_hasRun_1 : decode cX0_hasRun 1 = .ok (.istore_n 3, 1) := by decide +kernel
theorem dX0_hasRun_2 : decode cX0_hasRun 2 = .ok (.iload_n 3, 1) := by decide +kernel
theorem dX0_hasRun_3 : decode cX0_hasRun 3 = .ok (.iload_n 2, 1) := by decide +kernel
theorem dX0_hasRun_4 : decode cX0_hasRun 4 = .ok (.if_icmp .ge 21, 3) := by decide +kernel
theorem dX0_hasRun_7 : decode cX0_hasRun 7 = .ok (.aload_n 0, 1) := by decide +kernel
theorem dX0_hasRun_8 : decode cX0_hasRun 8 = .ok (.iload_n 1, 1) := by decide +kernel
theorem dX0_hasRun_9 : decode cX0_hasRun 9 = .ok (.iload_n 3, 1) := by decide +kernel
theorem dX0_hasRun_10 : decode cX0_hasRun 10 = .ok (.iadd, 1) := by decide +kernel
theorem dX0_hasRun_11 : decode cX0_hasRun 11 = .ok (.invokestatic 9, 3) := by decide +kernel
theorem dX0_hasRun_14 : decode cX0_hasRun 14 = .ok (.ifCond .ne 5, 3) := by decide +kernel
theorem dX0_hasRun_17 : decode cX0_hasRun 17 = .ok (.iconst 0, 1) := by decide +kernel
theorem dX0_hasRun_18 : decode cX0_hasRun 18 = .ok (.ireturn, 1) := by decide +kernel
theorem dX0_hasRun_19 : decode cX0_hasRun 19 = .ok (.iinc 3 1, 3) := by decide +kernel
theorem dX0_hasRun_22 : decode cX0_hasRun 22 = .ok (.goto (-20), 3) := by decide +kernel
theorem dX0_hasRun_25 : decode cX0_hasRun 25 = .ok (.iconst 1, 1) := by decide +kernel
theorem dX0_hasRun_26 : decode cX0_hasRun 26 = .ok (.ireturn, 1) := by decide +kernel
theorem dX0_firstColour_0 : decode cX0_firstColour 0 = .ok (.iload_n 0, 1) := by decide +kernel
theorem dX0_firstColour_1 : decode cX0_firstColour 1 = .ok (.iconst 1, 1) := by decide +kernel
theorem dX0_firstColour_2 : decode cX0_firstColour 2 = .ok (.iand, 1) := by decide +kernel
theorem dX0_firstColour_3 : decode cX0_firstColour 3 = .ok (.iconst 1, 1) := by decide +kernel
theorem dX0_firstColour_4 : decode cX0_firstColour 4 = .ok (.if_icmp .ne 7, 3) := by decide +kernel
theorem dX0_firstColour_7 : decode cX0_firstColour 7 = .ok (.iconst 0, 1) := by decide +kernel
theorem dX0_firstColour_8 : decode cX0_firstColour 8 = .ok (.goto 4, 3) := by decide +kernel
theorem dX0_firstColour_11 : decode cX0_firstColour 11 = .ok (.iconst 1, 1) := by decide +kernel
theorem dX0_firstColour_12 : decode cX0_firstColour 12 = .ok (.ireturn, 1) := by decide +kernel
theorem dX0_hasGroup_0 : decode cX0_hasGroup 0 = .ok (.iconst 0, 1) := by decide +kernel
theorem dX0_hasGroup_1 : decode cX0_hasGroup 1 = .ok (.istore_n 3, 1) := by decide +kernel
theorem dX0_hasGroup_2 : decode cX0_hasGroup 2 = .ok (.iload_n 3, 1) := by decide +kernel
theorem dX0_hasGroup_3 : decode cX0_hasGroup 3 = .ok (.iconst 4, 1) := by decide +kernel
theorem dX0_hasGroup_4 : decode cX0_hasGroup 4 = .ok (.if_icmp .ge 35, 3) := by decide +kernel
theorem dX0_hasGroup_7 : decode cX0_hasGroup 7 = .ok (.iload_n 2, 1) := by decide +kernel
theorem dX0_hasGroup_8 : decode cX0_hasGroup 8 = .ok (.iconst 4, 1) := by decide +kernel
theorem dX0_hasGroup_9 : decode cX0_hasGroup 9 = .ok (.iload_n 3, 1) := by decide +kernel
theorem dX0_hasGroup_10 : decode cX0_hasGroup 10 = .ok (.imul, 1) := by decide +kernel
theorem dX0_hasGroup_11 : decode cX0_hasGroup 11 = .ok (.ishr, 1) := by decide +kernel
theorem dX0_hasGroup_12 : decode cX0_hasGroup 12 = .ok (.iconst 1, 1) := by decide +kernel
theorem dX0_hasGroup_13 : decode cX0_hasGroup 13 = .ok (.iand, 1) := by decide +kernel
theorem dX0_hasGroup_14 : decode cX0_hasGroup 14 = .ok (.iconst 1, 1) := by decide +kernel
theorem dX0_hasGroup_15 : decode cX0_hasGroup 15 = .ok (.if_icmp .ne 18, 3) := by decide +kernel
theorem dX0_hasGroup_18 : decode cX0_hasGroup 18 = .ok (.aload_n 0, 1) := by decide +kernel
theorem dX0_hasGroup_19 : decode cX0_hasGroup 19 = .ok (.bipush 13, 2) := by decide +kernel
theorem dX0_hasGroup_21 : decode cX0_hasGroup 21 = .ok (.iload_n 3, 1) := by decide +kernel
theorem dX0_hasGroup_22 : decode cX0_hasGroup 22 = .ok (.imul, 1) := by decide +kernel
theorem dX0_hasGroup_23 : decode cX0_hasGroup 23 = .ok (.iload_n 1, 1) := by decide +kernel
theorem dX0_hasGroup_24 : decode cX0_hasGroup 24 = .ok (.iadd, 1) := by decide +kernel
theorem dX0_hasGroup_25 : decode cX0_hasGroup 25 = .ok (.invokestatic 9, 3) := by decide +kernel
theorem dX0_hasGroup_28 : decode cX0_hasGroup 28 = .ok (.ifCond .ne 5, 3) := by decide +kernel
theorem dX0_hasGroup_31 : decode cX0_hasGroup 31 = .ok (.iconst 0, 1) := by decide +kernel
theorem dX0_hasGroup_32 : decode cX0_hasGroup 32 = .ok (.ireturn, 1) := by decide +kernel
theorem dX0_hasGroup_33 : decode cX0_hasGroup 33 = .ok (.iinc 3 1, 3) := by decide +kernel
theorem dX0_hasGroup_36 : decode cX0_hasGroup 36 = .ok (.goto (-34), 3) := by decide +kernel
theorem dX0_hasGroup_39 : decode cX0_hasGroup 39 = .ok (.iconst 1, 1) := by decide +kernel
theorem dX0_hasGroup_40 : decode cX0_hasGroup 40 = .ok (.ireturn, 1) := by decide +kernel
theorem dX0_take_0 : decode cX0_take 0 = .ok (.iload_n 2, 1) := by decide +kernel
theorem dX0_take_1 : decode cX0_take 1 = .ok (.bipush 14, 2) := by decide +kernel
theorem dX0_take_3 : decode cX0_take 3 = .ok (.if_icmp .ge 37, 3) := by decide +kernel
theorem dX0_take_6 : decode cX0_take 6 = .ok (.iconst 0, 1) := by decide +kernel
theorem dX0_take_7 : decode cX0_take 7 = .ok (.istore 4, 2) := by decide +kernel
theorem dX0_take_9 : decode cX0_take 9 = .ok (.iload 4, 2) := by decide +kernel
theorem dX0_take_11 : decode cX0_take 11 = .ok (.iload_n 2, 1) := by decide +kernel
theorem dX0_take_12 : decode cX0_take 12 = .ok (.if_icmp .ge 27, 3) := by decide +kernel
theorem dX0_take_15 : decode cX0_take 15 = .ok (.aload_n 0, 1) := by decide +kernel
theorem dX0_take_16 : decode cX0_take 16 = .ok (.iload_n 1, 1) := by decide +kernel
theorem dX0_take_17 : decode cX0_take 17 = .ok (.iload 4, 2) := by decide +kernel
theorem dX0_take_19 : decode cX0_take 19 = .ok (.iadd, 1) := by decide +kernel
theorem dX0_take_20 : decode cX0_take 20 = .ok (.aload_n 0, 1) := by decide +kernel
theorem dX0_take_21 : decode cX0_take 21 = .ok (.iload_n 1, 1) := by decide +kernel
theorem dX0_take_22 : decode cX0_take 22 = .ok (.iload 4, 2) := by decide +kernel
theorem dX0_take_24 : decode cX0_take 24 = .ok (.iadd, 1) := by decide +kernel
theorem dX0_take_25 : decode cX0_take 25 = .ok (.invokestatic 9, 3) := by decide +kernel
theorem dX0_take_28 : decode cX0_take 28 = .ok (.iload_n 3, 1) := by decide +kernel
theorem dX0_take_29 : decode cX0_take 29 = .ok (.isub, 1) := by decide +kernel
theorem dX0_take_30 : decode cX0_take 30 = .ok (.invokestatic 42, 3) := by decide +kernel
theorem dX0_take_33 : decode cX0_take 33 = .ok (.iinc 4 1, 3) := by decide +kernel
theorem dX0_take_36 : decode cX0_take 36 = .ok (.goto (-27), 3) := by decide +kernel
theorem dX0_take_39 : decode cX0_take 39 = .ok (.return_, 1) := by decide +kernel
theorem dX0_take_40 : decode cX0_take 40 = .ok (.getstatic 31, 3) := by decide +kernel
theorem dX0_take_43 : decode cX0_take 43 = .ok (.iload_n 2, 1) := by decide +kernel
theorem dX0_take_44 : decode cX0_take 44 = .ok (.bipush 14, 2) := by decide +kernel
theorem dX0_take_46 : decode cX0_take 46 = .ok (.isub, 1) := by decide +kernel
theorem dX0_take_47 : decode cX0_take 47 = .ok (.iconst 1, 1) := by decide +kernel
theorem dX0_take_48 : decode cX0_take 48 = .ok (.iadd, 1) := by decide +kernel
theorem dX0_take_49 : decode cX0_take 49 = .ok (.invokestatic 9, 3) := by decide +kernel
theorem dX0_take_52 : decode cX0_take 52 = .ok (.istore 4, 2) := by decide +kernel
theorem dX0_take_54 : decode cX0_take 54 = .ok (.iconst 0, 1) := by decide +kernel
theorem dX0_take_55 : decode cX0_take 55 = .ok (.istore 5, 2) := by decide +kernel
theorem dX0_take_57 : decode cX0_take 57 = .ok (.iload 5, 2) := by decide +kernel
theorem dX0_take_59 : decode cX0_take 59 = .ok (.iconst 4, 1) := by decide +kernel
theorem dX0_take_60 : decode cX0_take 60 = .ok (.if_icmp .ge 45, 3) := by decide +kernel
theorem dX0_take_63 : decode cX0_take 63 = .ok (.bipush 13, 2) := by decide +kernel
theorem dX0_take_65 : decode cX0_take 65 = .ok (.iload 5, 2) := by decide +kernel
theorem dX0_take_67 : decode cX0_take 67 = .ok (.imul, 1) := by decide +kernel
theorem dX0_take_68 : decode cX0_take 68 = .ok (.iload_n 1, 1) := by decide +kernel
theorem dX0_take_69 : decode cX0_take 69 = .ok (.bipush 13, 2) := by decide +kernel
theorem dX0_take_71 : decode cX0_take 71 = .ok (.irem, 1) := by decide +kernel
theorem dX0_take_72 : decode cX0_take 72 = .ok (.iadd, 1) := by decide +kernel
theorem dX0_take_73 : decode cX0_take 73 = .ok (.istore 6, 2) := by decide +kernel
theorem dX0_take_75 : decode cX0_take 75 = .ok (.aload_n 0, 1) := by decide +kernel
theorem dX0_take_76 : decode cX0_take 76 = .ok (.iload 6, 2) := by decide +kernel
theorem dX0_take_78 : decode cX0_take 78 = .ok (.aload_n 0, 1) := by decide +kernel
theorem dX0_take_79 : decode cX0_take 79 = .ok (.iload 6, 2) := by decide +kernel
theorem dX0_take_81 : decode cX0_take 81 = .ok (.invokestatic 9, 3) := by decide +kernel
theorem dX0_take_84 : decode cX0_take 84 = .ok (.iload_n 3, 1) := by decide +kernel
theorem dX0_take_85 : decode cX0_take 85 = .ok (.iload 4, 2) := by decide +kernel
theorem dX0_take_87 : decode cX0_take 87 = .ok (.iconst 4, 1) := by decide +kernel
theorem dX0_take_88 : decode cX0_take 88 = .ok (.iload 5, 2) := by decide +kernel
theorem dX0_take_90 : decode cX0_take 90 = .ok (.imul, 1) := by decide +kernel
theorem dX0_take_91 : decode cX0_take 91 = .ok (.ishr, 1) := by decide +kernel
theorem dX0_take_92 : decode cX0_take 92 = .ok (.iconst 1, 1) := by decide +kernel
theorem dX0_take_93 : decode cX0_take 93 = .ok (.iand, 1) := by decide +kernel
theorem dX0_take_94 : decode cX0_take 94 = .ok (.imul, 1) := by decide +kernel
theorem dX0_take_95 : decode cX0_take 95 = .ok (.isub, 1) := by decide +kernel
theorem dX0_take_96 : decode cX0_take 96 = .ok (.invokestatic 42, 3) := by decide +kernel
theorem dX0_take_99 : decode cX0_take 99 = .ok (.iinc 5 1, 3) := by decide +kernel
theorem dX0_take_102 : decode cX0_take 102 = .ok (.goto (-45), 3) := by decide +kernel
theorem dX0_take_105 : decode cX0_take 105 = .ok (.return_, 1) := by decide +kernel
theorem dX1_init_0 : decode cX1_init 0 = .ok (.aload_n 0, 1) := by decide +kernel
theorem dX1_init_1 : decode cX1_init 1 = .ok (.invokespecial 3, 3) := by decide +kernel
theorem dX1_init_4 : decode cX1_init 4 = .ok (.aload_n 0, 1) := by decide +kernel
theorem dX1_init_5 : decode cX1_init 5 = .ok (.bipush 53, 2) := by decide +kernel
theorem dX1_init_7 : decode cX1_init 7 = .ok (.newarray .int, 2) := by decide +kernel
theorem dX1_init_9 : decode cX1_init 9 = .ok (.putfield 9, 3) := by decide +kernel
theorem dX1_init_12 : decode cX1_init 12 = .ok (.aload_n 0, 1) := by decide +kernel
theorem dX1_init_13 : decode cX1_init 13 = .ok (.sipush 212, 3) := by decide +kernel
theorem dX1_init_16 : decode cX1_init 16 = .ok (.newarray .int, 2) := by decide +kernel
theorem dX1_init_18 : decode cX1_init 18 = .ok (.putfield 15, 3) := by decide +kernel
theorem dX1_init_21 : decode cX1_init 21 = .ok (.aload_n 0, 1) := by decide +kernel
theorem dX1_init_22 : decode cX1_init 22 = .ok (.iconst 4, 1) := by decide +kernel
theorem dX1_init_23 : decode cX1_init 23 = .ok (.newarray .int, 2) := by decide +kernel
theorem dX1_init_25 : decode cX1_init 25 = .ok (.putfield 18, 3) := by decide +kernel
theorem dX1_init_28 : decode cX1_init 28 = .ok (.aload_n 0, 1) := by decide +kernel
theorem dX1_init_29 : decode cX1_init 29 = .ok (.bipush 52, 2) := by decide +kernel
theorem dX1_init_31 : decode cX1_init 31 = .ok (.newarray .int, 2) := by decide +kernel
theorem dX1_init_33 : decode cX1_init 33 = .ok (.putfield 21, 3) := by decide +kernel
theorem dX1_init_36 : decode cX1_init 36 = .ok (.aload_n 0, 1) := by decide +kernel
theorem dX1_init_37 : decode cX1_init 37 = .ok (.bipush 52, 2) := by decide +kernel
theorem dX1_init_39 : decode cX1_init 39 = .ok (.newarray .int, 2) := by decide +kernel
theorem dX1_init_41 : decode cX1_init 41 = .ok (.putfield 24, 3) := by decide +kernel
theorem dX1_init_44 : decode cX1_init 44 = .ok (.aload_n 0, 1) := by decide +kernel
theorem dX1_init_45 : decode cX1_init 45 = .ok (.bipush 64, 2) := by decide +kernel
theorem dX1_init_47 : decode cX1_init 47 = .ok (.newarray .int, 2) := by decide +kernel
theorem dX1_init_49 : decode cX1_init 49 = .ok (.putfield 27, 3) := by decide +kernel
theorem dX1_init_52 : decode cX1_init 52 = .ok (.return_, 1) := by decide +kernel
theorem dX1_clear_0 : decode cX1_clear 0 = .ok (.aload_n 0, 1) := by decide +kernel
theorem dX1_clear_1 : decode cX1_clear 1 = .ok (.getfield 9, 3) := by decide +kernel
theorem dX1_clear_4 : decode cX1_clear 4 = .ok (.iconst 0, 1) := by decide +kernel
theorem dX1_clear_5 : decode cX1_clear 5 = .ok (.invokestatic 30, 3) := by decide +kernel
theorem dX1_clear_8 : decode cX1_clear 8 = .ok (.aload_n 0, 1) := by decide +kernel
theorem dX1_clear_9 : decode cX1_clear 9 = .ok (.getfield 15, 3) := by decide +kernel
theorem dX1_clear_12 : decode cX1_clear 12 = .ok (.iconst 0, 1) := by decide +kernel
theorem dX1_clear_13 : decode cX1_clear 13 = .ok (.invokestatic 30, 3) := by decide +kernel
theorem dX1_clear_16 : decode cX1_clear 16 = .ok (.aload_n 0, 1) := by decide +kernel
theorem dX1_clear_17 : decode cX1_clear 17 = .ok (.getfield 18, 3) := by decide +kernel
theorem dX1_clear_20 : decode cX1_clear 20 = .ok (.iconst 0, 1) := by decide +kernel
theorem dX1_clear_21 : decode cX1_clear 21 = .ok (.invokestatic 30, 3) := by decide +kernel
theorem dX1_clear_24 : decode cX1_clear 24 = .ok (.aload_n 0, 1) := by decide +kernel
theorem dX1_clear_25 : decode cX1_clear 25 = .ok (.getfield 21, 3) := by decide +kernel
theorem dX1_clear_28 : decode cX1_clear 28 = .ok (.iconst 0, 1) := by decide +kernel
theorem dX1_clear_29 : decode cX1_clear 29 = .ok (.invokestatic 30, 3) := by decide +kernel
theorem dX1_clear_32 : decode cX1_clear 32 = .ok (.aload_n 0, 1) := by decide +kernel
theorem dX1_clear_33 : decode cX1_clear 33 = .ok (.getfield 24, 3) := by decide +kernel
theorem dX1_clear_36 : decode cX1_clear 36 = .ok (.iconst 0, 1) := by decide +kernel
theorem dX1_clear_37 : decode cX1_clear 37 = .ok (.invokestatic 30, 3) := by decide +kernel
theorem dX1_clear_40 : decode cX1_clear 40 = .ok (.aload_n 0, 1) := by decide +kernel
theorem dX1_clear_41 : decode cX1_clear 41 = .ok (.iconst 0, 1) := by decide +kernel
theorem dX1_clear_42 : decode cX1_clear 42 = .ok (.putfield 36, 3) := by decide +kernel
theorem dX1_clear_45 : decode cX1_clear 45 = .ok (.aload_n 0, 1) := by decide +kernel
theorem dX1_clear_46 : decode cX1_clear 46 = .ok (.iconst 0, 1) := by decide +kernel
theorem dX1_clear_47 : decode cX1_clear 47 = .ok (.putfield 40, 3) := by decide +kernel
theorem dX1_clear_50 : decode cX1_clear 50 = .ok (.aload_n 0, 1) := by decide +kernel
theorem dX1_clear_51 : decode cX1_clear 51 = .ok (.iconst 0, 1) := by decide +kernel
theorem dX1_clear_52 : decode cX1_clear 52 = .ok (.putfield 43, 3) := by decide +kernel
theorem dX1_clear_55 : decode cX1_clear 55 = .ok (.aload_n 0, 1) := by decide +kernel
theorem dX1_clear_56 : decode cX1_clear 56 = .ok (.iconst 0, 1) := by decide +kernel
theorem dX1_clear_57 : decode cX1_clear 57 = .ok (.putfield 46, 3) := by decide +kernel
theorem dX1_clear_60 : decode cX1_clear 60 = .ok (.aload_n 0, 1) := by decide +kernel
theorem dX1_clear_61 : decode cX1_clear 61 = .ok (.iconst 0, 1) := by decide +kernel
theorem dX1_clear_62 : decode cX1_clear 62 = .ok (.putfield 49, 3) := by decide +kernel
theorem dX1_clear_65 : decode cX1_clear 65 = .ok (.aload_n 0, 1) := by decide +kernel
theorem dX1_clear_66 : decode cX1_clear 66 = .ok (.dup, 1) := by decide +kernel
theorem dX1_clear_67 : decode cX1_clear 67 = .ok (.getfield 52, 3) := by decide +kernel
theorem dX1_clear_70 : decode cX1_clear 70 = .ok (.iconst 1, 1) := by decide +kernel
theorem dX1_clear_71 : decode cX1_clear 71 = .ok (.iadd, 1) := by decide +kernel
theorem dX1_clear_72 : decode cX1_clear 72 = .ok (.putfield 52, 3) := by decide +kernel
theorem dX1_clear_75 : decode cX1_clear 75 = .ok (.return_, 1) := by decide +kernel
theorem dX1_dealOut_0 : decode cX1_dealOut 0 = .ok (.aload_n 0, 1) := by decide +kernel
theorem dX1_dealOut_1 : decode cX1_dealOut 1 = .ok (.invokevirtual 55, 3) := by decide +kernel
theorem dX1_dealOut_4 : decode cX1_dealOut 4 = .ok (.iconst 0, 1) := by decide +kernel
theorem dX1_dealOut_5 : decode cX1_dealOut 5 = .ok (.istore 5, 2) := by decide +kernel
theorem dX1_dealOut_7 : decode cX1_dealOut 7 = .ok (.iload 5, 2) := by decide +kernel
theorem dX1_dealOut_9 : decode cX1_dealOut 9 = .ok (.bipush 52, 2) := by decide +kernel
theorem dX1_dealOut_11 : decode cX1_dealOut 11 = .ok (.if_icmp .ge 30, 3) := by decide +kernel
theorem dX1_dealOut_14 : decode cX1_dealOut 14 = .ok (.aload_n 0, 1) := by decide +kernel
theorem dX1_dealOut_15 : decode cX1_dealOut 15 = .ok (.getfield 9, 3) := by decide +kernel
theorem dX1_dealOut_18 : decode cX1_dealOut 18 = .ok (.iload 5, 2) := by decide +kernel
theorem dX1_dealOut_20 : decode cX1_dealOut 20 = .ok (.aload_n 1, 1) := by decide +kernel
theorem dX1_dealOut_21 : decode cX1_dealOut 21 = .ok (.iload 5, 2) := by decide +kernel
theorem dX1_dealOut_23 : decode cX1_dealOut 23 = .ok (.invokevirtual 58, 3) := by decide +kernel
theorem dX1_dealOut_26 : decode cX1_dealOut 26 = .ok (.ifCond .eq 7, 3) := by decide +kernel
theorem dX1_dealOut_29 : decode cX1_dealOut 29 = .ok (.iconst 2, 1) := by decide +kernel
theorem dX1_dealOut_30 : decode cX1_dealOut 30 = .ok (.goto 4, 3) := by decide +kernel
theorem dX1_dealOut_33 : decode cX1_dealOut 33 = .ok (.iconst 0, 1) := by decide +kernel
theorem dX1_dealOut_34 : decode cX1_dealOut 34 = .ok (.iastore, 1) := by decide +kernel
theorem dX1_dealOut_35 : decode cX1_dealOut 35 = .ok (.iinc 5 1, 3) := by decide +kernel
theorem dX1_dealOut_38 : decode cX1_dealOut 38 = .ok (.goto (-31), 3) := by decide +kernel
theorem dX1_dealOut_41 : decode cX1_dealOut 41 = .ok (.aload_n 0, 1) := by decide +kernel
theorem dX1_dealOut_42 : decode cX1_dealOut 42 = .ok (.getfield 9, 3) := by decide +kernel
theorem dX1_dealOut_45 : decode cX1_dealOut 45 = .ok (.bipush 52, 2) := by decide +kernel
theorem dX1_dealOut_47 : decode cX1_dealOut 47 = .ok (.aload_n 1, 1) := by decide +kernel
theorem dX1_dealOut_48 : decode cX1_dealOut 48 = .ok (.getfield 64, 3) := by decide +kernel
theorem dX1_dealOut_51 : decode cX1_dealOut 51 = .ok (.iastore, 1) := by decide +kernel
theorem dX1_dealOut_52 : decode cX1_dealOut 52 = .ok (.aload_n 0, 1) := by decide +kernel
theorem dX1_dealOut_53 : decode cX1_dealOut 53 = .ok (.aload_n 1, 1) := by decide +kernel
theorem dX1_dealOut_54 : decode cX1_dealOut 54 = .ok (.invokevirtual 66, 3) := by decide +kernel
theorem dX1_dealOut_57 : decode cX1_dealOut 57 = .ok (.putfield 40, 3) := by decide +kernel
theorem dX1_dealOut_60 : decode cX1_dealOut 60 = .ok (.aload_n 0, 1) := by decide +kernel
theorem dX1_dealOut_61 : decode cX1_dealOut 61 = .ok (.iload_n 2, 1) := by decide +kernel
theorem dX1_dealOut_62 : decode cX1_dealOut 62 = .ok (.putfield 70, 3) := by decide +kernel
theorem dX1_dealOut_65 : decode cX1_dealOut 65 = .ok (.iconst 0, 1) := by decide +kernel
theorem dX1_dealOut_66 : decode cX1_dealOut 66 = .ok (.istore 5, 2) := by decide +kernel
theorem dX1_dealOut_68 : decode cX1_dealOut 68 = .ok (.iload 5, 2) := by decide +kernel
theorem dX1_dealOut_70 : decode cX1_dealOut 70 = .ok (.iload 4, 2) := by decide +kernel
theorem dX1_dealOut_72 : decode cX1_dealOut 72 = .ok (.if_icmp .ge 17, 3) := by decide +kernel
theorem dX1_dealOut_75 : decode cX1_dealOut 75 = .ok (.aload_n 0, 1) := by decide +kernel
theorem dX1_dealOut_76 : decode cX1_dealOut 76 = .ok (.iload 5, 2) := by decide +kernel
theorem dX1_dealOut_78 : decode cX1_dealOut 78 = .ok (.iload_n 3, 1) := by decide +kernel
theorem dX1_dealOut_79 : decode cX1_dealOut 79 = .ok (.invokevirtual 73, 3) := by decide +kernel
theorem dX1_dealOut_82 : decode cX1_dealOut 82 = .ok (.pop, 1) := by decide +kernel
theorem dX1_dealOut_83 : decode cX1_dealOut 83 = .ok (.iinc 5 1, 3) := by decide +kernel
theorem dX1_dealOut_86 : decode cX1_dealOut 86 = .ok (.goto (-18), 3) := by decide +kernel
theorem dX1_dealOut_89 : decode cX1_dealOut 89 = .ok (.return_, 1) := by decide +kernel
theorem dX1_drawUpTo_0 : decode cX1_drawUpTo 0 = .ok (.iconst 0, 1) := by decide +kernel
theorem dX1_drawUpTo_1 : decode cX1_drawUpTo 1 = .ok (.istore_n 3, 1) := by decide +kernel
theorem dX1_drawUpTo_2 : decode cX1_drawUpTo 2 = .ok (.iload_n 3, 1) := by decide +kernel
theorem dX1_drawUpTo_3 : decode cX1_drawUpTo 3 = .ok (.iload_n 2, 1) := by decide +kernel
theorem dX1_drawUpTo_4 : decode cX1_drawUpTo 4 = .ok (.if_icmp .ge 17, 3) := by decide +kernel
theorem dX1_drawUpTo_7 : decode cX1_drawUpTo 7 = .ok (.aload_n 0, 1) := by decide +kernel
theorem dX1_drawUpTo_8 : decode cX1_drawUpTo 8 = .ok (.iload_n 1, 1) := by decide +kernel
theorem dX1_drawUpTo_9 : decode cX1_drawUpTo 9 = .ok (.invokevirtual 77, 3) := by decide +kernel
theorem dX1_drawUpTo_12 : decode cX1_drawUpTo 12 = .ok (.ifCond .eq 9, 3) := by decide +kernel
theorem dX1_drawUpTo_15 : decode cX1_drawUpTo 15 = .ok (.iinc 3 1, 3) := by decide +kernel
theorem dX1_drawUpTo_18 : decode cX1_drawUpTo 18 = .ok (.goto (-16), 3) := by decide +kernel
theorem dX1_drawUpTo_21 : decode cX1_drawUpTo 21 = .ok (.iload_n 3, 1) := by decide +kernel
theorem dX1_drawUpTo_22 : decode cX1_drawUpTo 22 = .ok (.ireturn, 1) := by decide +kernel
theorem dX1_drawOne_0 : decode cX1_drawOne 0 = .ok (.aload_n 0, 1) := by decide +kernel
theorem dX1_drawOne_1 : decode cX1_drawOne 1 = .ok (.getfield 40, 3) := by decide +kernel
theorem dX1_drawOne_4 : decode cX1_drawOne 4 = .ok (.ifCond .le 13, 3) := by decide +kernel
theorem dX1_drawOne_7 : decode cX1_drawOne 7 = .ok (.aload_n 0, 1) := by decide +kernel
theorem dX1_drawOne_8 : decode cX1_drawOne 8 = .ok (.iload_n 1, 1) := by decide +kernel
theorem dX1_drawOne_9 : decode cX1_drawOne 9 = .ok (.invokevirtual 80, 3) := by decide +kernel
theorem dX1_drawOne_12 : decode cX1_drawOne 12 = .ok (.bipush 24, 2) := by decide +kernel
theorem dX1_drawOne_14 : decode cX1_drawOne 14 = .ok (.if_icmp .lt 5, 3) := by decide +kernel
theorem dX1_drawOne_17 : decode cX1_drawOne 17 = .ok (.iconst 0, 1) := by decide +kernel
theorem dX1_drawOne_18 : decode cX1_drawOne 18 = .ok (.ireturn, 1) := by decide +kernel
theorem dX1_drawOne_19 : decode cX1_drawOne 19 = .ok (.aload_n 0, 1) := by decide +kernel
theorem dX1_drawOne_20 : decode cX1_drawOne 20 = .ok (.sipush 25173, 3) := by decide +kernel
theorem dX1_drawOne_23 : decode cX1_drawOne 23 = .ok (.aload_n 0, 1) := by decide +kernel
theorem dX1_drawOne_24 : decode cX1_drawOne 24 = .ok (.getfield 70, 3) := by decide +kernel
theorem dX1_drawOne_27 : decode cX1_drawOne 27 = .ok (.imul, 1) := by decide +kernel
theorem dX1_drawOne_28 : decode cX1_drawOne 28 = .ok (.sipush 13849, 3) := by decide +kernel
theorem dX1_drawOne_31 : decode cX1_drawOne 31 = .ok (.iadd, 1) := by decide +kernel
theorem dX1_drawOne_32 : decode cX1_drawOne 32 = .ok (.ldc 84, 2) := by decide +kernel
theorem dX1_drawOne_34 : decode cX1_drawOne 34 = .ok (.iand, 1) := by decide +kernel
theorem dX1_drawOne_35 : decode cX1_drawOne 35 = .ok (.putfield 70, 3) := by decide +kernel
theorem dX1_drawOne_38 : decode cX1_drawOne 38 = .ok (.aload_n 0, 1) := by decide +kernel
theorem dX1_drawOne_39 : decode cX1_drawOne 39 = .ok (.getfield 70, 3) := by decide +kernel
theorem dX1_drawOne_42 : decode cX1_drawOne 42 = .ok (.aload_n 0, 1) := by decide +kernel
theorem dX1_drawOne_43 : decode cX1_drawOne 43 = .ok (.getfield 40, 3) := by decide +kernel
theorem dX1_drawOne_46 : decode cX1_drawOne 46 = .ok (.irem, 1) := by decide +kernel
theorem dX1_drawOne_47 : decode cX1_drawOne 47 = .ok (.istore_n 2, 1) := by decide +kernel
theorem dX1_drawOne_48 : decode cX1_drawOne 48 = .ok (.iconst 0, 1) := by decide +kernel
theorem dX1_drawOne_49 : decode cX1_drawOne 49 = .ok (.istore_n 3, 1) := by decide +kernel
theorem dX1_drawOne_50 : decode cX1_drawOne 50 = .ok (.iload_n 3, 1) := by decide +kernel
theorem dX1_drawOne_51 : decode cX1_drawOne 51 = .ok (.bipush 53, 2) := by decide +kernel
theorem dX1_drawOne_53 : decode cX1_drawOne 53 = .ok (.if_icmp .ge 57, 3) := by decide +kernel
theorem dX1_drawOne_56 : decode cX1_drawOne 56 = .ok (.iload_n 2, 1) := by decide +kernel
theorem dX1_drawOne_57 : decode cX1_drawOne 57 = .ok (.aload_n 0, 1) := by decide +kernel
theorem dX1_drawOne_58 : decode cX1_drawOne 58 = .ok (.getfield 9, 3) := by decide +kernel
theorem dX1_drawOne_61 : decode cX1_drawOne 61 = .ok (.iload_n 3, 1) := by decide +kernel
theorem dX1_drawOne_62 : decode cX1_drawOne 62 = .ok (.iaload, 1) := by decide +kernel
theorem dX1_drawOne_63 : decode cX1_drawOne 63 = .ok (.if_icmp .ge 32, 3) := by decide +kernel
theorem dX1_drawOne_66 : decode cX1_drawOne 66 = .ok (.aload_n 0, 1) := by decide +kernel
theorem dX1_drawOne_67 : decode cX1_drawOne 67 = .ok (.getfield 9, 3) := by decide +kernel
theorem dX1_drawOne_70 : decode cX1_drawOne 70 = .ok (.iload_n 3, 1) := by decide +kernel
theorem dX1_drawOne_71 : decode cX1_drawOne 71 = .ok (.dup2, 1) := by decide +kernel
theorem dX1_drawOne_72 : decode cX1_drawOne 72 = .ok (.iaload, 1) := by decide +kernel
theorem dX1_drawOne_73 : decode cX1_drawOne 73 = .ok (.iconst 1, 1) := by decide +kernel
theorem dX1_drawOne_74 : decode cX1_drawOne 74 = .ok (.isub, 1) := by decide +kernel
theorem dX1_drawOne_75 : decode cX1_drawOne 75 = .ok (.iastore, 1) := by decide +kernel
theorem dX1_drawOne_76 : decode cX1_drawOne 76 = .ok (.aload_n 0, 1) := by decide +kernel
theorem dX1_drawOne_77 : decode cX1_drawOne 77 = .ok (.dup, 1) := by decide +kernel
theorem dX1_drawOne_78 : decode cX1_drawOne 78 = .ok (.getfield 40, 3) := by decide +kernel
theorem dX1_drawOne_81 : decode cX1_drawOne 81 = .ok (.iconst 1, 1) := by decide +kernel
theorem dX1_drawOne_82 : decode cX1_drawOne 82 = .ok (.isub, 1) := by decide +kernel
theorem dX1_drawOne_83 : decode cX1_drawOne 83 = .ok (.putfield 40, 3) := by decide +kernel
theorem dX1_drawOne_86 : decode cX1_drawOne 86 = .ok (.aload_n 0, 1) := by decide +kernel
theorem dX1_drawOne_87 : decode cX1_drawOne 87 = .ok (.iload_n 1, 1) := by decide +kernel
theorem dX1_drawOne_88 : decode cX1_drawOne 88 = .ok (.iload_n 3, 1) := by decide +kernel
theorem dX1_drawOne_89 : decode cX1_drawOne 89 = .ok (.iconst 1, 1) := by decide +kernel
theorem dX1_drawOne_90 : decode cX1_drawOne 90 = .ok (.invokevirtual 85, 3) := by decide +kernel
theorem dX1_drawOne_93 : decode cX1_drawOne 93 = .ok (.iconst 1, 1) := by decide +kernel
theorem dX1_drawOne_94 : decode cX1_drawOne 94 = .ok (.ireturn, 1) := by decide +kernel
theorem dX1_drawOne_95 : decode cX1_drawOne 95 = .ok (.iload_n 2, 1) := by decide +kernel
theorem dX1_drawOne_96 : decode cX1_drawOne 96 = .ok (.aload_n 0, 1) := by decide +kernel
theorem dX1_drawOne_97 : decode cX1_drawOne 97 = .ok (.getfield 9, 3) := by decide +kernel
theorem dX1_drawOne_100 : decode cX1_drawOne 100 = .ok (.iload_n 3, 1) := by decide +kernel
theorem dX1_drawOne_101 : decode cX1_drawOne 101 = .ok (.iaload, 1) := by decide +kernel
theorem dX1_drawOne_102 : decode cX1_drawOne 102 = .ok (.isub, 1) := by decide +kernel
theorem dX1_drawOne_103 : decode cX1_drawOne 103 = .ok (.istore_n 2, 1) := by decide +kernel
theorem dX1_drawOne_104 : decode cX1_drawOne 104 = .ok (.iinc 3 1, 3) := by decide +kernel
theorem dX1_drawOne_107 : decode cX1_drawOne 107 = .ok (.goto (-57), 3) := by decide +kernel
theorem dX1_drawOne_110 : decode cX1_drawOne 110 = .ok (.iconst 0, 1) := by decide +kernel
theorem dX1_drawOne_111 : decode cX1_drawOne 111 = .ok (.ireturn, 1) := by decide +kernel
theorem dX1_give_0 : decode cX1_give 0 = .ok (.iload_n 1, 1) := by decide +kernel
theorem dX1_give_1 : decode cX1_give 1 = .ok (.bipush 53, 2) := by decide +kernel
theorem dX1_give_3 : decode cX1_give 3 = .ok (.imul, 1) := by decide +kernel
theorem dX1_give_4 : decode cX1_give 4 = .ok (.iload_n 2, 1) := by decide +kernel
theorem dX1_give_5 : decode cX1_give 5 = .ok (.iadd, 1) := by decide +kernel
theorem dX1_give_6 : decode cX1_give 6 = .ok (.istore 4, 2) := by decide +kernel
theorem dX1_give_8 : decode cX1_give 8 = .ok (.aload_n 0, 1) := by decide +kernel
theorem dX1_give_9 : decode cX1_give 9 = .ok (.getfield 15, 3) := by decide +kernel
theorem dX1_give_12 : decode cX1_give 12 = .ok (.iload 4, 2) := by decide +kernel
theorem dX1_give_14 : decode cX1_give 14 = .ok (.aload_n 0, 1) := by decide +kernel
theorem dX1_give_15 : decode cX1_give 15 = .ok (.getfield 15, 3) := by decide +kernel
theorem dX1_give_18 : decode cX1_give 18 = .ok (.iload 4, 2) := by decide +kernel
theorem dX1_give_20 : decode cX1_give 20 = .ok (.invokestatic 89, 3) := by decide +kernel
theorem dX1_give_23 : decode cX1_give 23 = .ok (.iload_n 3, 1) := by decide +kernel
theorem dX1_give_24 : decode cX1_give 24 = .ok (.iadd, 1) := by decide +kernel
theorem dX1_give_25 : decode cX1_give 25 = .ok (.invokestatic 93, 3) := by decide +kernel
theorem dX1_give_28 : decode cX1_give 28 = .ok (.aload_n 0, 1) := by decide +kernel
theorem dX1_give_29 : decode cX1_give 29 = .ok (.getfield 18, 3) := by decide +kernel
theorem dX1_give_32 : decode cX1_give 32 = .ok (.iload_n 1, 1) := by decide +kernel
theorem dX1_give_33 : decode cX1_give 33 = .ok (.aload_n 0, 1) := by decide +kernel
theorem dX1_give_34 : decode cX1_give 34 = .ok (.getfield 18, 3) := by decide +kernel
theorem dX1_give_37 : decode cX1_give 37 = .ok (.iload_n 1, 1) := by decide +kernel
theorem dX1_give_38 : decode cX1_give 38 = .ok (.invokestatic 89, 3) := by decide +kernel
theorem dX1_give_41 : decode cX1_give 41 = .ok (.iload_n 3, 1) := by decide +kernel
theorem dX1_give_42 : decode cX1_give 42 = .ok (.iadd, 1) := by decide +kernel
theorem dX1_give_43 : decode cX1_give 43 = .ok (.invokestatic 93, 3) := by decide +kernel
theorem dX1_give_46 : decode cX1_give 46 = .ok (.aload_n 0, 1) := by decide +kernel
theorem dX1_give_47 : decode cX1_give 47 = .ok (.dup, 1) := by decide +kernel
theorem dX1_give_48 : decode cX1_give 48 = .ok (.getfield 52, 3) := by decide +kernel
theorem dX1_give_51 : decode cX1_give 51 = .ok (.iconst 1, 1) := by decide +kernel
theorem dX1_give_52 : decode cX1_give 52 = .ok (.iadd, 1) := by decide +kernel
theorem dX1_give_53 : decode cX1_give 53 = .ok (.putfield 52, 3) := by decide +kernel
theorem dX1_give_56 : decode cX1_give 56 = .ok (.return_, 1) := by decide +kernel
theorem dX1_rackOf_0 : decode cX1_rackOf 0 = .ok (.aload_n 0, 1) := by decide +kernel
theorem dX1_rackOf_1 : decode cX1_rackOf 1 = .ok (.getfield 15, 3) := by decide +kernel
theorem dX1_rackOf_4 : decode cX1_rackOf 4 = .ok (.iload_n 1, 1) := by decide +kernel
theorem dX1_rackOf_5 : decode cX1_rackOf 5 = .ok (.bipush 53, 2) := by decide +kernel
theorem dX1_rackOf_7 : decode cX1_rackOf 7 = .ok (.imul, 1) := by decide +kernel
theorem dX1_rackOf_8 : decode cX1_rackOf 8 = .ok (.iload_n 2, 1) := by decide +kernel
theorem dX1_rackOf_9 : decode cX1_rackOf 9 = .ok (.iadd, 1) := by decide +kernel
theorem dX1_rackOf_10 : decode cX1_rackOf 10 = .ok (.invokestatic 89, 3) := by decide +kernel
theorem dX1_rackOf_13 : decode cX1_rackOf 13 = .ok (.ireturn, 1) := by decide +kernel
theorem dX1_sizeOf_0 : decode cX1_sizeOf 0 = .ok (.aload_n 0, 1) := by decide +kernel
theorem dX1_sizeOf_1 : decode cX1_sizeOf 1 = .ok (.getfield 18, 3) := by decide +kernel
theorem dX1_sizeOf_4 : decode cX1_sizeOf 4 = .ok (.iload_n 1, 1) := by decide +kernel
theorem dX1_sizeOf_5 : decode cX1_sizeOf 5 = .ok (.invokestatic 89, 3) := by decide +kernel
theorem dX1_sizeOf_8 : decode cX1_sizeOf 8 = .ok (.ireturn, 1) := by decide +kernel
theorem dX1_worthOf_0 : decode cX1_worthOf 0 = .ok (.bipush 30, 2) := by decide +kernel
theorem dX1_worthOf_2 : decode cX1_worthOf 2 = .ok (.aload_n 0, 1) := by decide +kernel
theorem dX1_worthOf_3 : decode cX1_worthOf 3 = .ok (.iload_n 1, 1) := by decide +kernel
theorem dX1_worthOf_4 : decode cX1_worthOf 4 = .ok (.bipush 52, 2) := by decide +kernel
theorem dX1_worthOf_6 : decode cX1_worthOf 6 = .ok (.invokevirtual 97, 3) := by decide +kernel
theorem dX1_worthOf_9 : decode cX1_worthOf 9 = .ok (.imul, 1) := by decide +kernel
theorem dX1_worthOf_10 : decode cX1_worthOf 10 = .ok (.istore_n 2, 1) := by decide +kernel
theorem dX1_worthOf_11 : decode cX1_worthOf 11 = .ok (.iconst 0, 1) := by decide +kernel
theorem dX1_worthOf_12 : decode cX1_worthOf 12 = .ok (.istore_n 3, 1) := by decide +kernel
theorem dX1_worthOf_13 : decode cX1_worthOf 13 = .ok (.iload_n 3, 1) := by decide +kernel
theorem dX1_worthOf_14 : decode cX1_worthOf 14 = .ok (.bipush 52, 2) := by decide +kernel
theorem dX1_worthOf_16 : decode cX1_worthOf 16 = .ok (.if_icmp .ge 25, 3) := by decide +kernel
theorem dX1_worthOf_19 : decode cX1_worthOf 19 = .ok (.iload_n 2, 1) := by decide +kernel
theorem dX1_worthOf_20 : decode cX1_worthOf 20 = .ok (.iload_n 3, 1) := by decide +kernel
theorem dX1_worthOf_21 : decode cX1_worthOf 21 = .ok (.bipush 13, 2) := by decide +kernel
theorem dX1_worthOf_23 : decode cX1_worthOf 23 = .ok (.irem, 1) := by decide +kernel
theorem dX1_worthOf_24 : decode cX1_worthOf 24 = .ok (.iconst 1, 1) := by decide +kernel
theorem dX1_worthOf_25 : decode cX1_worthOf 25 = .ok (.iadd, 1) := by decide +kernel
theorem dX1_worthOf_26 : decode cX1_worthOf 26 = .ok (.aload_n 0, 1) := by decide +kernel
theorem dX1_worthOf_27 : decode cX1_worthOf 27 = .ok (.iload_n 1, 1) := by decide +kernel
theorem dX1_worthOf_28 : decode cX1_worthOf 28 = .ok (.iload_n 3, 1) := by decide +kernel
theorem dX1_worthOf_29 : decode cX1_worthOf 29 = .ok (.invokevirtual 97, 3) := by decide +kernel
theorem dX1_worthOf_32 : decode cX1_worthOf 32 = .ok (.imul, 1) := by decide +kernel
theorem dX1_worthOf_33 : decode cX1_worthOf 33 = .ok (.iadd, 1) := by decide +kernel
theorem dX1_worthOf_34 : decode cX1_worthOf 34 = .ok (.istore_n 2, 1) := by decide +kernel
theorem dX1_worthOf_35 : decode cX1_worthOf 35 = .ok (.iinc 3 1, 3) := by decide +kernel
theorem dX1_worthOf_38 : decode cX1_worthOf 38 = .ok (.goto (-25), 3) := by decide +kernel
theorem dX1_worthOf_41 : decode cX1_worthOf 41 = .ok (.iload_n 2, 1) := by decide +kernel
theorem dX1_worthOf_42 : decode cX1_worthOf 42 = .ok (.ireturn, 1) := by decide +kernel
theorem dX1_lightest_0 : decode cX1_lightest 0 = .ok (.iconst 0, 1) := by decide +kernel
theorem dX1_lightest_1 : decode cX1_lightest 1 = .ok (.istore_n 2, 1) := by decide +kernel
theorem dX1_lightest_2 : decode cX1_lightest 2 = .ok (.iconst 1, 1) := by decide +kernel
theorem dX1_lightest_3 : decode cX1_lightest 3 = .ok (.istore_n 3, 1) := by decide +kernel
theorem dX1_lightest_4 : decode cX1_lightest 4 = .ok (.iload_n 3, 1) := by decide +kernel
theorem dX1_lightest_5 : decode cX1_lightest 5 = .ok (.iload_n 1, 1) := by decide +kernel
theorem dX1_lightest_6 : decode cX1_lightest 6 = .ok (.if_icmp .ge 24, 3) := by decide +kernel
theorem dX1_lightest_9 : decode cX1_lightest 9 = .ok (.aload_n 0, 1) := by decide +kernel
theorem dX1_lightest_10 : decode cX1_lightest 10 = .ok (.iload_n 3, 1) := by decide +kernel
theorem dX1_lightest_11 : decode cX1_lightest 11 = .ok (.invokevirtual 100, 3) := by decide +kernel
theorem dX1_lightest_14 : decode cX1_lightest 14 = .ok (.aload_n 0, 1) := by decide +kernel
theorem dX1_lightest_15 : decode cX1_lightest 15 = .ok (.iload_n 2, 1) := by decide +kernel
theorem dX1_lightest_16 : decode cX1_lightest 16 = .ok (.invokevirtual 100, 3) := by decide +kernel
theorem dX1_lightest_19 : decode cX1_lightest 19 = .ok (.if_icmp .ge 5, 3) := by decide +kernel
theorem dX1_lightest_22 : decode cX1_lightest 22 = .ok (.iload_n 3, 1) := by decide +kernel
theorem dX1_lightest_23 : decode cX1_lightest 23 = .ok (.istore_n 2, 1) := by decide +kernel
theorem dX1_lightest_24 : decode cX1_lightest 24 = .ok (.iinc 3 1, 3) := by decide +kernel
theorem dX1_lightest_27 : decode cX1_lightest 27 = .ok (.goto (-23), 3) := by decide +kernel
theorem dX1_lightest_30 : decode cX1_lightest 30 = .ok (.iload_n 2, 1) := by decide +kernel
theorem dX1_lightest_31 : decode cX1_lightest 31 = .ok (.ireturn, 1) := by decide +kernel
theorem dX1_lies_0 : decode cX1_lies 0 = .ok (.aload_n 0, 1) := by decide +kernel
theorem dX1_lies_1 : decode cX1_lies 1 = .ok (.getfield 21, 3) := by decide +kernel
theorem dX1_lies_4 : decode cX1_lies 4 = .ok (.iload_n 1, 1) := by decide +kernel
theorem dX1_lies_5 : decode cX1_lies 5 = .ok (.invokestatic 89, 3) := by decide +kernel
theorem dX1_lies_8 : decode cX1_lies 8 = .ok (.aload_n 0, 1) := by decide +kernel
theorem dX1_lies_9 : decode cX1_lies 9 = .ok (.getfield 24, 3) := by decide +kernel
theorem dX1_lies_12 : decode cX1_lies 12 = .ok (.iload_n 1, 1) := by decide +kernel
theorem dX1_lies_13 : decode cX1_lies 13 = .ok (.invokestatic 89, 3) := by decide +kernel
theorem dX1_lies_16 : decode cX1_lies 16 = .ok (.iadd, 1) := by decide +kernel
theorem dX1_lies_17 : decode cX1_lies 17 = .ok (.ireturn, 1) := by decide +kernel
theorem dX1_hidden_0 : decode cX1_hidden 0 = .ok (.aload_n 0, 1) := by decide +kernel
theorem dX1_hidden_1 : decode cX1_hidden 1 = .ok (.getfield 9, 3) := by decide +kernel
theorem dX1_hidden_4 : decode cX1_hidden 4 = .ok (.iload_n 2, 1) := by decide +kernel
theorem dX1_hidden_5 : decode cX1_hidden 5 = .ok (.invokestatic 89, 3) := by decide +kernel
theorem dX1_hidden_8 : decode cX1_hidden 8 = .ok (.istore_n 3, 1) := by decide +kernel
theorem dX1_hidden_9 : decode cX1_hidden 9 = .ok (.iconst 0, 1) := by decide +kernel
theorem dX1_hidden_10 : decode cX1_hidden 10 = .ok (.istore 4, 2) := by decide +kernel
theorem dX1_hidden_12 : decode cX1_hidden 12 = .ok (.iload 4, 2) := by decide +kernel
theorem dX1_hidden_14 : decode cX1_hidden 14 = .ok (.iconst 4, 1) := by decide +kernel
theorem dX1_hidden_15 : decode cX1_hidden 15 = .ok (.if_icmp .ge 29, 3) := by decide +kernel
theorem dX1_hidden_18 : decode cX1_hidden 18 = .ok (.iload_n 3, 1) := by decide +kernel
theorem dX1_hidden_19 : decode cX1_hidden 19 = .ok (.iload 4, 2) := by decide +kernel
theorem dX1_hidden_21 : decode cX1_hidden 21 = .ok (.iload_n 1, 1) := by decide +kernel
theorem dX1_hidden_22 : decode cX1_hidden 22 = .ok (.if_icmp .ne 7, 3) := by decide +kernel
theorem dX1_hidden_25 : decode cX1_hidden 25 = .ok (.iconst 0, 1) := by decide +kernel
theorem dX1_hidden_26 : decode cX1_hidden 26 = .ok (.goto 10, 3) := by decide +kernel
theorem dX1_hidden_29 : decode cX1_hidden 29 = .ok (.aload_n 0, 1) := by decide +kernel
theorem dX1_hidden_30 : decode cX1_hidden 30 = .ok (.iload 4, 2) := by decide +kernel
theorem dX1_hidden_32 : decode cX1_hidden 32 = .ok (.iload_n 2, 1) := by decide +kernel
theorem dX1_hidden_33 : decode cX1_hidden 33 = .ok (.invokevirtual 97, 3) := by decide +kernel
theorem dX1_hidden_36 : decode cX1_hidden 36 = .ok (.iadd, 1) := by decide +kernel
theorem dX1_hidden_37 : decode cX1_hidden 37 = .ok (.istore_n 3, 1) := by decide +kernel
theorem dX1_hidden_38 : decode cX1_hidden 38 = .ok (.iinc 4 1, 3) := by decide +kernel
theorem dX1_hidden_41 : decode cX1_hidden 41 = .ok (.goto (-29), 3) := by decide +kernel
theorem dX1_hidden_44 : decode cX1_hidden 44 = .ok (.iload_n 3, 1) := by decide +kernel
theorem dX1_hidden_45 : decode cX1_hidden 45 = .ok (.ireturn, 1) := by decide +kernel
theorem dX1_allHidden_0 : decode cX1_allHidden 0 = .ok (.aload_n 0, 1) := by decide +kernel
theorem dX1_allHidden_1 : decode cX1_allHidden 1 = .ok (.getfield 40, 3) := by decide +kernel
theorem dX1_allHidden_4 : decode cX1_allHidden 4 = .ok (.istore_n 2, 1) := by decide +kernel
theorem dX1_allHidden_5 : decode cX1_allHidden 5 = .ok (.iconst 0, 1) := by decide +kernel
theorem dX1_allHidden_6 : decode cX1_allHidden 6 = .ok (.istore_n 3, 1) := by decide +kernel
theorem dX1_allHidden_7 : decode cX1_allHidden 7 = .ok (.iload_n 3, 1) := by decide +kernel
theorem dX1_allHidden_8 : decode cX1_allHidden 8 = .ok (.iconst 4, 1) := by decide +kernel
theorem dX1_allHidden_9 : decode cX1_allHidden 9 = .ok (.if_icmp .ge 26, 3) := by decide +kernel
theorem dX1_allHidden_12 : decode cX1_allHidden 12 = .ok (.iload_n 2, 1) := by decide +kernel
theorem dX1_allHidden_13 : decode cX1_allHidden 13 = .ok (.iload_n 3, 1) := by decide +kernel
theorem dX1_allHidden_14 : decode cX1_allHidden 14 = .ok (.iload_n 1, 1) := by decide +kernel
theorem dX1_allHidden_15 : decode cX1_allHidden 15 = .ok (.if_icmp .ne 7, 3) := by decide +kernel
theorem dX1_allHidden_18 : decode cX1_allHidden 18 = .ok (.iconst 0, 1) := by decide +kernel
theorem dX1_allHidden_19 : decode cX1_allHidden 19 = .ok (.goto 8, 3) := by decide +kernel
theorem dX1_allHidden_22 : decode cX1_allHidden 22 = .ok (.aload_n 0, 1) := by decide +kernel
theorem dX1_allHidden_23 : decode cX1_allHidden 23 = .ok (.iload_n 3, 1) := by decide +kernel
theorem dX1_allHidden_24 : decode cX1_allHidden 24 = .ok (.invokevirtual 80, 3) := by decide +kernel
theorem dX1_allHidden_27 : decode cX1_allHidden 27 = .ok (.iadd, 1) := by decide +kernel
theorem dX1_allHidden_28 : decode cX1_allHidden 28 = .ok (.istore_n 2, 1) := by decide +kernel
theorem dX1_allHidden_29 : decode cX1_allHidden 29 = .ok (.iinc 3 1, 3) := by decide +kernel
theorem dX1_allHidden_32 : decode cX1_allHidden 32 = .ok (.goto (-25), 3) := by decide +kernel
theorem dX1_allHidden_35 : decode cX1_allHidden 35 = .ok (.iload_n 2, 1) := by decide +kernel
theorem dX1_allHidden_36 : decode cX1_allHidden 36 = .ok (.ireturn, 1) := by decide +kernel
theorem dX1_layTile_0 : decode cX1_layTile 0 = .ok (.aload_n 0, 1) := by decide +kernel
theorem dX1_layTile_1 : decode cX1_layTile 1 = .ok (.iload_n 1, 1) := by decide +kernel
theorem dX1_layTile_2 : decode cX1_layTile 2 = .ok (.iload_n 2, 1) := by decide +kernel
theorem dX1_layTile_3 : decode cX1_layTile 3 = .ok (.iconst (-1), 1) := by decide +kernel
theorem dX1_layTile_4 : decode cX1_layTile 4 = .ok (.invokevirtual 85, 3) := by decide +kernel
theorem dX1_layTile_7 : decode cX1_layTile 7 = .ok (.aload_n 0, 1) := by decide +kernel
theorem dX1_layTile_8 : decode cX1_layTile 8 = .ok (.aload_n 0, 1) := by decide +kernel
theorem dX1_layTile_9 : decode cX1_layTile 9 = .ok (.getfield 21, 3) := by decide +kernel
theorem dX1_layTile_12 : decode cX1_layTile 12 = .ok (.iload_n 2, 1) := by decide +kernel
theorem dX1_layTile_13 : decode cX1_layTile 13 = .ok (.iconst 1, 1) := by decide +kernel
theorem dX1_layTile_14 : decode cX1_layTile 14 = .ok (.invokevirtual 103, 3) := by decide +kernel
theorem dX1_layTile_17 : decode cX1_layTile 17 = .ok (.aload_n 0, 1) := by decide +kernel
theorem dX1_layTile_18 : decode cX1_layTile 18 = .ok (.dup, 1) := by decide +kernel
theorem dX1_layTile_19 : decode cX1_layTile 19 = .ok (.getfield 43, 3) := by decide +kernel
theorem dX1_layTile_22 : decode cX1_layTile 22 = .ok (.iconst 1, 1) := by decide +kernel
theorem dX1_layTile_23 : decode cX1_layTile 23 = .ok (.iadd, 1) := by decide +kernel
theorem dX1_layTile_24 : decode cX1_layTile 24 = .ok (.putfield 43, 3) := by decide +kernel
theorem dX1_layTile_27 : decode cX1_layTile 27 = .ok (.aload_n 0, 1) := by decide +kernel
theorem dX1_layTile_28 : decode cX1_layTile 28 = .ok (.iconst 0, 1) := by decide +kernel
theorem dX1_layTile_29 : decode cX1_layTile 29 = .ok (.iload_n 2, 1) := by decide +kernel
theorem dX1_layTile_30 : decode cX1_layTile 30 = .ok (.invokevirtual 106, 3) := by decide +kernel
theorem dX1_layTile_33 : decode cX1_layTile 33 = .ok (.return_, 1) := by decide +kernel
theorem dX1_layJoker_0 : decode cX1_layJoker 0 = .ok (.aload_n 0, 1) := by decide +kernel
theorem dX1_layJoker_1 : decode cX1_layJoker 1 = .ok (.getfield 49, 3) := by decide +kernel
theorem dX1_layJoker_4 : decode cX1_layJoker 4 = .ok (.ifCond .le 7, 3) := by decide +kernel
theorem dX1_layJoker_7 : decode cX1_layJoker 7 = .ok (.iconst 1, 1) := by decide +kernel
theorem dX1_layJoker_8 : decode cX1_layJoker 8 = .ok (.goto 4, 3) := by decide +kernel
theorem dX1_layJoker_11 : decode cX1_layJoker 11 = .ok (.iconst 0, 1) := by decide +kernel
theorem dX1_layJoker_12 : decode cX1_layJoker 12 = .ok (.istore_n 3, 1) := by decide +kernel
theorem dX1_layJoker_13 : decode cX1_layJoker 13 = .ok (.iload_n 3, 1) := by decide +kernel
theorem dX1_layJoker_14 : decode cX1_layJoker 14 = .ok (.ifCond .eq 16, 3) := by decide +kernel
theorem dX1_layJoker_17 : decode cX1_layJoker 17 = .ok (.aload_n 0, 1) := by decide +kernel
theorem dX1_layJoker_18 : decode cX1_layJoker 18 = .ok (.dup, 1) := by decide +kernel
theorem dX1_layJoker_19 : decode cX1_layJoker 19 = .ok (.getfield 49, 3) := by decide +kernel
theorem dX1_layJoker_22 : decode cX1_layJoker 22 = .ok (.iconst 1, 1) := by decide +kernel
theorem dX1_layJoker_23 : decode cX1_layJoker 23 = .ok (.isub, 1) := by decide +kernel
theorem dX1_layJoker_24 : decode cX1_layJoker 24 = .ok (.putfield 49, 3) := by decide +kernel
theorem dX1_layJoker_27 : decode cX1_layJoker 27 = .ok (.goto 11, 3) := by decide +kernel
theorem dX1_layJoker_30 : decode cX1_layJoker 30 = .ok (.aload_n 0, 1) := by decide +kernel
theorem dX1_layJoker_31 : decode cX1_layJoker 31 = .ok (.iload_n 1, 1) := by decide +kernel
theorem dX1_layJoker_32 : decode cX1_layJoker 32 = .ok (.bipush 52, 2) := by decide +kernel
theorem dX1_layJoker_34 : decode cX1_layJoker 34 = .ok (.iconst (-1), 1) := by decide +kernel
theorem dX1_layJoker_35 : decode cX1_layJoker 35 = .ok (.invokevirtual 85, 3) := by decide +kernel
theorem dX1_layJoker_38 : decode cX1_layJoker 38 = .ok (.aload_n 0, 1) := by decide +kernel
theorem dX1_layJoker_39 : decode cX1_layJoker 39 = .ok (.aload_n 0, 1) := by decide +kernel
theorem dX1_layJoker_40 : decode cX1_layJoker 40 = .ok (.getfield 24, 3) := by decide +kernel
theorem dX1_layJoker_43 : decode cX1_layJoker 43 = .ok (.iload_n 2, 1) := by decide +kernel
theorem dX1_layJoker_44 : decode cX1_layJoker 44 = .ok (.iconst 1, 1) := by decide +kernel
theorem dX1_layJoker_45 : decode cX1_layJoker 45 = .ok (.invokevirtual 103, 3) := by decide +kernel
theorem dX1_layJoker_48 : decode cX1_layJoker 48 = .ok (.aload_n 0, 1) := by decide +kernel
theorem dX1_layJoker_49 : decode cX1_layJoker 49 = .ok (.dup, 1) := by decide +kernel
theorem dX1_layJoker_50 : decode cX1_layJoker 50 = .ok (.getfield 43, 3) := by decide +kernel
theorem dX1_layJoker_53 : decode cX1_layJoker 53 = .ok (.iconst 1, 1) := by decide +kernel
theorem dX1_layJoker_54 : decode cX1_layJoker 54 = .ok (.iadd, 1) := by decide +kernel
theorem dX1_layJoker_55 : decode cX1_layJoker 55 = .ok (.putfield 43, 3) := by decide +kernel
theorem dX1_layJoker_58 : decode cX1_layJoker 58 = .ok (.aload_n 0, 1) := by decide +kernel
theorem dX1_layJoker_59 : decode cX1_layJoker 59 = .ok (.dup, 1) := by decide +kernel
theorem dX1_layJoker_60 : decode cX1_layJoker 60 = .ok (.getfield 46, 3) := by decide +kernel
theorem dX1_layJoker_63 : decode cX1_layJoker 63 = .ok (.iconst 1, 1) := by decide +kernel
theorem dX1_layJoker_64 : decode cX1_layJoker 64 = .ok (.iadd, 1) := by decide +kernel
theorem dX1_layJoker_65 : decode cX1_layJoker 65 = .ok (.putfield 46, 3) := by decide +kernel
theorem dX1_layJoker_68 : decode cX1_layJoker 68 = .ok (.aload_n 0, 1) := by decide +kernel
theorem dX1_layJoker_69 : decode cX1_layJoker 69 = .ok (.iload_n 3, 1) := by decide +kernel
theorem dX1_layJoker_70 : decode cX1_layJoker 70 = .ok (.ifCond .eq 7, 3) := by decide +kernel
theorem dX1_layJoker_73 : decode cX1_layJoker 73 = .ok (.iconst 2, 1) := by decide +kernel
theorem dX1_layJoker_74 : decode cX1_layJoker 74 = .ok (.goto 4, 3) := by decide +kernel
theorem dX1_layJoker_77 : decode cX1_layJoker 77 = .ok (.iconst 1, 1) := by decide +kernel
theorem dX1_layJoker_78 : decode cX1_layJoker 78 = .ok (.iload_n 2, 1) := by decide +kernel
theorem dX1_layJoker_79 : decode cX1_layJoker 79 = .ok (.invokevirtual 106, 3) := by decide +kernel
theorem dX1_layJoker_82 : decode cX1_layJoker 82 = .ok (.return_, 1) := by decide +kernel
theorem dX1_swapJoker_0 : decode cX1_swapJoker 0 = .ok (.aload_n 0, 1) := by decide +kernel
theorem dX1_swapJoker_1 : decode cX1_swapJoker 1 = .ok (.iload_n 1, 1) := by decide +kernel
theorem dX1_swapJoker_2 : decode cX1_swapJoker 2 = .ok (.iload_n 2, 1) := by decide +kernel
theorem dX1_swapJoker_3 : decode cX1_swapJoker 3 = .ok (.iconst (-1), 1) := by decide +kernel
theorem dX1_swapJoker_4 : decode cX1_swapJoker 4 = .ok (.invokevirtual 85, 3) := by decide +kernel
theorem dX1_swapJoker_7 : decode cX1_swapJoker 7 = .ok (.aload_n 0, 1) := by decide +kernel
theorem dX1_swapJoker_8 : decode cX1_swapJoker 8 = .ok (.aload_n 0, 1) := by decide +kernel
theorem dX1_swapJoker_9 : decode cX1_swapJoker 9 = .ok (.getfield 21, 3) := by decide +kernel
theorem dX1_swapJoker_12 : decode cX1_swapJoker 12 = .ok (.iload_n 2, 1) := by decide +kernel
theorem dX1_swapJoker_13 : decode cX1_swapJoker 13 = .ok (.iconst 1, 1) := by decide +kernel
theorem dX1_swapJoker_14 : decode cX1_swapJoker 14 = .ok (.invokevirtual 103, 3) := by decide +kernel
theorem dX1_swapJoker_17 : decode cX1_swapJoker 17 = .ok (.aload_n 0, 1) := by decide +kernel
theorem dX1_swapJoker_18 : decode cX1_swapJoker 18 = .ok (.aload_n 0, 1) := by decide +kernel
theorem dX1_swapJoker_19 : decode cX1_swapJoker 19 = .ok (.getfield 24, 3) := by decide +kernel
theorem dX1_swapJoker_22 : decode cX1_swapJoker 22 = .ok (.iload_n 2, 1) := by decide +kernel
theorem dX1_swapJoker_23 : decode cX1_swapJoker 23 = .ok (.iconst (-1), 1) := by decide +kernel
theorem dX1_swapJoker_24 : decode cX1_swapJoker 24 = .ok (.invokevirtual 103, 3) := by decide +kernel
theorem dX1_swapJoker_27 : decode cX1_swapJoker 27 = .ok (.aload_n 0, 1) := by decide +kernel
theorem dX1_swapJoker_28 : decode cX1_swapJoker 28 = .ok (.dup, 1) := by decide +kernel
theorem dX1_swapJoker_29 : decode cX1_swapJoker 29 = .ok (.getfield 46, 3) := by decide +kernel
theorem dX1_swapJoker_32 : decode cX1_swapJoker 32 = .ok (.iconst 1, 1) := by decide +kernel
theorem dX1_swapJoker_33 : decode cX1_swapJoker 33 = .ok (.isub, 1) := by decide +kernel
theorem dX1_swapJoker_34 : decode cX1_swapJoker 34 = .ok (.putfield 46, 3) := by decide +kernel
theorem dX1_swapJoker_37 : decode cX1_swapJoker 37 = .ok (.aload_n 0, 1) := by decide +kernel
theorem dX1_swapJoker_38 : decode cX1_swapJoker 38 = .ok (.dup, 1) := by decide +kernel
theorem dX1_swapJoker_39 : decode cX1_swapJoker 39 = .ok (.getfield 49, 3) := by decide +kernel
theorem dX1_swapJoker_42 : decode cX1_swapJoker 42 = .ok (.iconst 1, 1) := by decide +kernel
theorem dX1_swapJoker_43 : decode cX1_swapJoker 43 = .ok (.iadd, 1) := by decide +kernel
theorem dX1_swapJoker_44 : decode cX1_swapJoker 44 = .ok (.putfield 49, 3) := by decide +kernel
theorem dX1_swapJoker_47 : decode cX1_swapJoker 47 = .ok (.aload_n 0, 1) := by decide +kernel
theorem dX1_swapJoker_48 : decode cX1_swapJoker 48 = .ok (.iconst 3, 1) := by decide +kernel
theorem dX1_swapJoker_49 : decode cX1_swapJoker 49 = .ok (.iload_n 2, 1) := by decide +kernel
theorem dX1_swapJoker_50 : decode cX1_swapJoker 50 = .ok (.invokevirtual 106, 3) := by decide +kernel
theorem dX1_swapJoker_53 : decode cX1_swapJoker 53 = .ok (.return_, 1) := by decide +kernel
theorem dX1_change_0 : decode cX1_change 0 = .ok (.aload_n 1, 1) := by decide +kernel
theorem dX1_change_1 : decode cX1_change 1 = .ok (.iload_n 2, 1) := by decide +kernel
theorem dX1_change_2 : decode cX1_change 2 = .ok (.aload_n 1, 1) := by decide +kernel
theorem dX1_change_3 : decode cX1_change 3 = .ok (.iload_n 2, 1) := by decide +kernel
theorem dX1_change_4 : decode cX1_change 4 = .ok (.invokestatic 89, 3) := by decide +kernel
theorem dX1_change_7 : decode cX1_change 7 = .ok (.iload_n 3, 1) := by decide +kernel
theorem dX1_change_8 : decode cX1_change 8 = .ok (.iadd, 1) := by decide +kernel
theorem dX1_change_9 : decode cX1_change 9 = .ok (.invokestatic 93, 3) := by decide +kernel
theorem dX1_change_12 : decode cX1_change 12 = .ok (.aload_n 0, 1) := by decide +kernel
theorem dX1_change_13 : decode cX1_change 13 = .ok (.dup, 1) := by decide +kernel
theorem dX1_change_14 : decode cX1_change 14 = .ok (.getfield 52, 3) := by decide +kernel
theorem dX1_change_17 : decode cX1_change 17 = .ok (.iconst 1, 1) := by decide +kernel
theorem dX1_change_18 : decode cX1_change 18 = .ok (.iadd, 1) := by decide +kernel
theorem dX1_change_19 : decode cX1_change 19 = .ok (.putfield 52, 3) := by decide +kernel
theorem dX1_change_22 : decode cX1_change 22 = .ok (.return_, 1) := by decide +kernel
theorem dX1_note_0 : decode cX1_note 0 = .ok (.aload_n 0, 1) := by decide +kernel
theorem dX1_note_1 : decode cX1_note 1 = .ok (.getfield 27, 3) := by decide +kernel
theorem dX1_note_4 : decode cX1_note 4 = .ok (.aload_n 0, 1) := by decide +kernel
theorem dX1_note_5 : decode cX1_note 5 = .ok (.getfield 36, 3) := by decide +kernel
theorem dX1_note_8 : decode cX1_note 8 = .ok (.iload_n 1, 1) := by decide +kernel
theorem dX1_note_9 : decode cX1_note 9 = .ok (.bipush 64, 2) := by decide +kernel
theorem dX1_note_11 : decode cX1_note 11 = .ok (.imul, 1) := by decide +kernel
theorem dX1_note_12 : decode cX1_note 12 = .ok (.iload_n 2, 1) := by decide +kernel
theorem dX1_note_13 : decode cX1_note 13 = .ok (.iadd, 1) := by decide +kernel
theorem dX1_note_14 : decode cX1_note 14 = .ok (.invokestatic 93, 3) := by decide +kernel
theorem dX1_note_17 : decode cX1_note 17 = .ok (.aload_n 0, 1) := by decide +kernel
theorem dX1_note_18 : decode cX1_note 18 = .ok (.aload_n 0, 1) := by decide +kernel
theorem dX1_note_19 : decode cX1_note 19 = .ok (.getfield 36, 3) := by decide +kernel
theorem dX1_note_22 : decode cX1_note 22 = .ok (.iconst 1, 1) := by decide +kernel
theorem dX1_note_23 : decode cX1_note 23 = .ok (.iadd, 1) := by decide +kernel
theorem dX1_note_24 : decode cX1_note 24 = .ok (.bipush 64, 2) := by decide +kernel
theorem dX1_note_26 : decode cX1_note 26 = .ok (.invokestatic 110, 3) := by decide +kernel
theorem dX1_note_29 : decode cX1_note 29 = .ok (.putfield 36, 3) := by decide +kernel
theorem dX1_note_32 : decode cX1_note 32 = .ok (.return_, 1) := by decide +kernel
theorem dX1_doneKind_0 : decode cX1_doneKind 0 = .ok (.aload_n 0, 1) := by decide +kernel
theorem dX1_doneKind_1 : decode cX1_doneKind 1 = .ok (.getfield 27, 3) := by decide +kernel
theorem dX1_doneKind_4 : decode cX1_doneKind 4 = .ok (.iload_n 1, 1) := by decide +kernel
theorem dX1_doneKind_5 : decode cX1_doneKind 5 = .ok (.invokestatic 89, 3) := by decide +kernel
theorem dX1_doneKind_8 : decode cX1_doneKind 8 = .ok (.bipush 63, 2) := by decide +kernel
theorem dX1_doneKind_10 : decode cX1_doneKind 10 = .ok (.iand, 1) := by decide +kernel
theorem dX1_doneKind_11 : decode cX1_doneKind 11 = .ok (.ireturn, 1) := by decide +kernel
theorem dX1_laidWorth_0 : decode cX1_laidWorth 0 = .ok (.iconst 0, 1) := by decide +kernel
theorem dX1_laidWorth_1 : decode cX1_laidWorth 1 = .ok (.istore_n 1, 1) := by decide +kernel
theorem dX1_laidWorth_2 : decode cX1_laidWorth 2 = .ok (.iconst 0, 1) := by decide +kernel
theorem dX1_laidWorth_3 : decode cX1_laidWorth 3 = .ok (.istore_n 2, 1) := by decide +kernel
theorem dX1_laidWorth_4 : decode cX1_laidWorth 4 = .ok (.iload_n 2, 1) := by decide +kernel
theorem dX1_laidWorth_5 : decode cX1_laidWorth 5 = .ok (.aload_n 0, 1) := by decide +kernel
theorem dX1_laidWorth_6 : decode cX1_laidWorth 6 = .ok (.getfield 36, 3) := by decide +kernel
theorem dX1_laidWorth_9 : decode cX1_laidWorth 9 = .ok (.if_icmp .ge 40, 3) := by decide +kernel
theorem dX1_laidWorth_12 : decode cX1_laidWorth 12 = .ok (.iload_n 1, 1) := by decide +kernel
theorem dX1_laidWorth_13 : decode cX1_laidWorth 13 = .ok (.aload_n 0, 1) := by decide +kernel
theorem dX1_laidWorth_14 : decode cX1_laidWorth 14 = .ok (.getfield 27, 3) := by decide +kernel
theorem dX1_laidWorth_17 : decode cX1_laidWorth 17 = .ok (.iload_n 2, 1) := by decide +kernel
theorem dX1_laidWorth_18 : decode cX1_laidWorth 18 = .ok (.invokestatic 89, 3) := by decide +kernel
theorem dX1_laidWorth_21 : decode cX1_laidWorth 21 = .ok (.bipush 6, 2) := by decide +kernel
theorem dX1_laidWorth_23 : decode cX1_laidWorth 23 = .ok (.ishr, 1) := by decide +kernel
theorem dX1_laidWorth_24 : decode cX1_laidWorth 24 = .ok (.ifCond .ne 16, 3) := by decide +kernel
theorem dX1_laidWorth_27 : decode cX1_laidWorth 27 = .ok (.aload_n 0, 1) := by decide +kernel
theorem dX1_laidWorth_28 : decode cX1_laidWorth 28 = .ok (.iload_n 2, 1) := by decide +kernel
theorem dX1_laidWorth_29 : decode cX1_laidWorth 29 = .ok (.invokevirtual 115, 3) := by decide +kernel
theorem dX1_laidWorth_32 : decode cX1_laidWorth 32 = .ok (.bipush 13, 2) := by decide +kernel
theorem dX1_laidWorth_34 : decode cX1_laidWorth 34 = .ok (.irem, 1) := by decide +kernel
theorem dX1_laidWorth_35 : decode cX1_laidWorth 35 = .ok (.iconst 1, 1) := by decide +kernel
theorem dX1_laidWorth_36 : decode cX1_laidWorth 36 = .ok (.iadd, 1) := by decide +kernel
theorem dX1_laidWorth_37 : decode cX1_laidWorth 37 = .ok (.goto 4, 3) := by decide +kernel
theorem dX1_laidWorth_40 : decode cX1_laidWorth 40 = .ok (.iconst 0, 1) := by decide +kernel
theorem dX1_laidWorth_41 : decode cX1_laidWorth 41 = .ok (.iadd, 1) := by decide +kernel
theorem dX1_laidWorth_42 : decode cX1_laidWorth 42 = .ok (.istore_n 1, 1) := by decide +kernel
theorem dX1_laidWorth_43 : decode cX1_laidWorth 43 = .ok (.iinc 2 1, 3) := by decide +kernel
theorem dX1_laidWorth_46 : decode cX1_laidWorth 46 = .ok (.goto (-42), 3) := by decide +kernel
theorem dX1_laidWorth_49 : decode cX1_laidWorth 49 = .ok (.iload_n 1, 1) := by decide +kernel
theorem dX1_laidWorth_50 : decode cX1_laidWorth 50 = .ok (.ireturn, 1) := by decide +kernel
theorem dX1_undo_0 : decode cX1_undo 0 = .ok (.aload_n 0, 1) := by decide +kernel
theorem dX1_undo_1 : decode cX1_undo 1 = .ok (.getfield 36, 3) := by decide +kernel
theorem dX1_undo_4 : decode cX1_undo 4 = .ok (.ifCond .gt 5, 3) := by decide +kernel
theorem dX1_undo_7 : decode cX1_undo 7 = .ok (.iconst (-1), 1) := by decide +kernel
theorem dX1_undo_8 : decode cX1_undo 8 = .ok (.ireturn, 1) := by decide +kernel
theorem dX1_undo_9 : decode cX1_undo 9 = .ok (.aload_n 0, 1) := by decide +kernel
theorem dX1_undo_10 : decode cX1_undo 10 = .ok (.dup, 1) := by decide +kernel
theorem dX1_undo_11 : decode cX1_undo 11 = .ok (.getfield 36, 3) := by decide +kernel
theorem dX1_undo_14 : decode cX1_undo 14 = .ok (.iconst 1, 1) := by decide +kernel
theorem dX1_undo_15 : decode cX1_undo 15 = .ok (.isub, 1) := by decide +kernel
theorem dX1_undo_16 : decode cX1_undo 16 = .ok (.putfield 36, 3) := by decide +kernel
theorem dX1_undo_19 : decode cX1_undo 19 = .ok (.aload_n 0, 1) := by decide +kernel
theorem dX1_undo_20 : decode cX1_undo 20 = .ok (.aload_n 0, 1) := by decide +kernel
theorem dX1_undo_21 : decode cX1_undo 21 = .ok (.getfield 36, 3) := by decide +kernel
theorem dX1_undo_24 : decode cX1_undo 24 = .ok (.invokevirtual 115, 3) := by decide +kernel
theorem dX1_undo_27 : decode cX1_undo 27 = .ok (.istore_n 2, 1) := by decide +kernel
theorem dX1_undo_28 : decode cX1_undo 28 = .ok (.aload_n 0, 1) := by decide +kernel
theorem dX1_undo_29 : decode cX1_undo 29 = .ok (.getfield 27, 3) := by decide +kernel
theorem dX1_undo_32 : decode cX1_undo 32 = .ok (.aload_n 0, 1) := by decide +kernel
theorem dX1_undo_33 : decode cX1_undo 33 = .ok (.getfield 36, 3) := by decide +kernel
theorem dX1_undo_36 : decode cX1_undo 36 = .ok (.invokestatic 89, 3) := by decide +kernel
theorem dX1_undo_39 : decode cX1_undo 39 = .ok (.bipush 6, 2) := by decide +kernel
theorem dX1_undo_41 : decode cX1_undo 41 = .ok (.ishr, 1) := by decide +kernel
theorem dX1_undo_42 : decode cX1_undo 42 = .ok (.tableswitch 126 0 3 #[30, 110, 126, 60], 30) := by decide +kernel
theorem dX1_undo_72 : decode cX1_undo 72 = .ok (.aload_n 0, 1) := by decide +kernel
theorem dX1_undo_73 : decode cX1_undo 73 = .ok (.aload_n 0, 1) := by decide +kernel
theorem dX1_undo_74 : decode cX1_undo 74 = .ok (.getfield 21, 3) := by decide +kernel
theorem dX1_undo_77 : decode cX1_undo 77 = .ok (.iload_n 2, 1) := by decide +kernel
theorem dX1_undo_78 : decode cX1_undo 78 = .ok (.iconst (-1), 1) := by decide +kernel
theorem dX1_undo_79 : decode cX1_undo 79 = .ok (.invokevirtual 103, 3) := by decide +kernel
theorem dX1_undo_82 : decode cX1_undo 82 = .ok (.aload_n 0, 1) := by decide +kernel
theorem dX1_undo_83 : decode cX1_undo 83 = .ok (.dup, 1) := by decide +kernel
theorem dX1_undo_84 : decode cX1_undo 84 = .ok (.getfield 43, 3) := by decide +kernel
theorem dX1_undo_87 : decode cX1_undo 87 = .ok (.iconst 1, 1) := by decide +kernel
theorem dX1_undo_88 : decode cX1_undo 88 = .ok (.isub, 1) := by decide +kernel
theorem dX1_undo_89 : decode cX1_undo 89 = .ok (.putfield 43, 3) := by decide +kernel
theorem dX1_undo_92 : decode cX1_undo 92 = .ok (.aload_n 0, 1) := by decide +kernel
theorem dX1_undo_93 : decode cX1_undo 93 = .ok (.iload_n 1, 1) := by decide +kernel
theorem dX1_undo_94 : decode cX1_undo 94 = .ok (.iload_n 2, 1) := by decide +kernel
theorem dX1_undo_95 : decode cX1_undo 95 = .ok (.iconst 1, 1) := by decide +kernel
theorem dX1_undo_96 : decode cX1_undo 96 = .ok (.invokevirtual 85, 3) := by decide +kernel
theorem dX1_undo_99 : decode cX1_undo 99 = .ok (.goto 84, 3) := by decide +kernel
theorem dX1_undo_102 : decode cX1_undo 102 = .ok (.aload_n 0, 1) := by decide +kernel
theorem dX1_undo_103 : decode cX1_undo 103 = .ok (.aload_n 0, 1) := by decide +kernel
theorem dX1_undo_104 : decode cX1_undo 104 = .ok (.getfield 21, 3) := by decide +kernel
theorem dX1_undo_107 : decode cX1_undo 107 = .ok (.iload_n 2, 1) := by decide +kernel
theorem dX1_undo_108 : decode cX1_undo 108 = .ok (.iconst (-1), 1) := by decide +kernel
theorem dX1_undo_109 : decode cX1_undo 109 = .ok (.invokevirtual 103, 3) := by decide +kernel
theorem dX1_undo_112 : decode cX1_undo 112 = .ok (.aload_n 0, 1) := by decide +kernel
theorem dX1_undo_113 : decode cX1_undo 113 = .ok (.aload_n 0, 1) := by decide +kernel
theorem dX1_undo_114 : decode cX1_undo 114 = .ok (.getfield 24, 3) := by decide +kernel
theorem dX1_undo_117 : decode cX1_undo 117 = .ok (.iload_n 2, 1) := by decide +kernel
theorem dX1_undo_118 : decode cX1_undo 118 = .ok (.iconst 1, 1) := by decide +kernel
theorem dX1_undo_119 : decode cX1_undo 119 = .ok (.invokevirtual 103, 3) := by decide +kernel
theorem dX1_undo_122 : decode cX1_undo 122 = .ok (.aload_n 0, 1) := by decide +kernel
theorem dX1_undo_123 : decode cX1_undo 123 = .ok (.dup, 1) := by decide +kernel
theorem dX1_undo_124 : decode cX1_undo 124 = .ok (.getfield 46, 3) := by decide +kernel
theorem dX1_undo_127 : decode cX1_undo 127 = .ok (.iconst 1, 1) := by decide +kernel
theorem dX1_undo_128 : decode cX1_undo 128 = .ok (.iadd, 1) := by decide +kernel
theorem dX1_undo_129 : decode cX1_undo 129 = .ok (.putfield 46, 3) := by decide +kernel
theorem dX1_undo_132 : decode cX1_undo 132 = .ok (.aload_n 0, 1) := by decide +kernel
theorem dX1_undo_133 : decode cX1_undo 133 = .ok (.dup, 1) := by decide +kernel
theorem dX1_undo_134 : decode cX1_undo 134 = .ok (.getfield 49, 3) := by decide +kernel
theorem dX1_undo_137 : decode cX1_undo 137 = .ok (.iconst 1, 1) := by decide +kernel
theorem dX1_undo_138 : decode cX1_undo 138 = .ok (.isub, 1) := by decide +kernel
theorem dX1_undo_139 : decode cX1_undo 139 = .ok (.putfield 49, 3) := by decide +kernel
theorem dX1_undo_142 : decode cX1_undo 142 = .ok (.aload_n 0, 1) := by decide +kernel
theorem dX1_undo_143 : decode cX1_undo 143 = .ok (.iload_n 1, 1) := by decide +kernel
theorem dX1_undo_144 : decode cX1_undo 144 = .ok (.iload_n 2, 1) := by decide +kernel
theorem dX1_undo_145 : decode cX1_undo 145 = .ok (.iconst 1, 1) := by decide +kernel
theorem dX1_undo_146 : decode cX1_undo 146 = .ok (.invokevirtual 85, 3) := by decide +kernel
theorem dX1_undo_149 : decode cX1_undo 149 = .ok (.goto 34, 3) := by decide +kernel
theorem dX1_undo_152 : decode cX1_undo 152 = .ok (.aload_n 0, 1) := by decide +kernel
theorem dX1_undo_153 : decode cX1_undo 153 = .ok (.iload_n 2, 1) := by decide +kernel
theorem dX1_undo_154 : decode cX1_undo 154 = .ok (.invokevirtual 118, 3) := by decide +kernel
theorem dX1_undo_157 : decode cX1_undo 157 = .ok (.aload_n 0, 1) := by decide +kernel
theorem dX1_undo_158 : decode cX1_undo 158 = .ok (.iload_n 1, 1) := by decide +kernel
theorem dX1_undo_159 : decode cX1_undo 159 = .ok (.bipush 52, 2) := by decide +kernel
theorem dX1_undo_161 : decode cX1_undo 161 = .ok (.iconst 1, 1) := by decide +kernel
theorem dX1_undo_162 : decode cX1_undo 162 = .ok (.invokevirtual 85, 3) := by decide +kernel
theorem dX1_undo_165 : decode cX1_undo 165 = .ok (.goto 18, 3) := by decide +kernel
theorem dX1_undo_168 : decode cX1_undo 168 = .ok (.aload_n 0, 1) := by decide +kernel
theorem dX1_undo_169 : decode cX1_undo 169 = .ok (.iload_n 2, 1) := by decide +kernel
theorem dX1_undo_170 : decode cX1_undo 170 = .ok (.invokevirtual 118, 3) := by decide +kernel
theorem dX1_undo_173 : decode cX1_undo 173 = .ok (.aload_n 0, 1) := by decide +kernel
theorem dX1_undo_174 : decode cX1_undo 174 = .ok (.dup, 1) := by decide +kernel
theorem dX1_undo_175 : decode cX1_undo 175 = .ok (.getfield 49, 3) := by decide +kernel
theorem dX1_undo_178 : decode cX1_undo 178 = .ok (.iconst 1, 1) := by decide +kernel
theorem dX1_undo_179 : decode cX1_undo 179 = .ok (.iadd, 1) := by decide +kernel
theorem dX1_undo_180 : decode cX1_undo 180 = .ok (.putfield 49, 3) := by decide +kernel
theorem dX1_undo_183 : decode cX1_undo 183 = .ok (.iload_n 2, 1) := by decide +kernel
theorem dX1_undo_184 : decode cX1_undo 184 = .ok (.ireturn, 1) := by decide +kernel
theorem dX1_liftJoker_0 : decode cX1_liftJoker 0 = .ok (.aload_n 0, 1) := by decide +kernel
theorem dX1_liftJoker_1 : decode cX1_liftJoker 1 = .ok (.aload_n 0, 1) := by decide +kernel
theorem dX1_liftJoker_2 : decode cX1_liftJoker 2 = .ok (.getfield 24, 3) := by decide +kernel
theorem dX1_liftJoker_5 : decode cX1_liftJoker 5 = .ok (.iload_n 1, 1) := by decide +kernel
theorem dX1_liftJoker_6 : decode cX1_liftJoker 6 = .ok (.iconst (-1), 1) := by decide +kernel
theorem dX1_liftJoker_7 : decode cX1_liftJoker 7 = .ok (.invokevirtual 103, 3) := by decide +kernel
theorem dX1_liftJoker_10 : decode cX1_liftJoker 10 = .ok (.aload_n 0, 1) := by decide +kernel
theorem dX1_liftJoker_11 : decode cX1_liftJoker 11 = .ok (.dup, 1) := by decide +kernel
theorem dX1_liftJoker_12 : decode cX1_liftJoker 12 = .ok (.getfield 43, 3) := by decide +kernel
theorem dX1_liftJoker_15 : decode cX1_liftJoker 15 = .ok (.iconst 1, 1) := by decide +kernel
theorem dX1_liftJoker_16 : decode cX1_liftJoker 16 = .ok (.isub, 1) := by decide +kernel
theorem dX1_liftJoker_17 : decode cX1_liftJoker 17 = .ok (.putfield 43, 3) := by decide +kernel
theorem dX1_liftJoker_20 : decode cX1_liftJoker 20 = .ok (.aload_n 0, 1) := by decide +kernel
theorem dX1_liftJoker_21 : decode cX1_liftJoker 21 = .ok (.dup, 1) := by decide +kernel
theorem dX1_liftJoker_22 : decode cX1_liftJoker 22 = .ok (.getfield 46, 3) := by decide +kernel
theorem dX1_liftJoker_25 : decode cX1_liftJoker 25 = .ok (.iconst 1, 1) := by decide +kernel
theorem dX1_liftJoker_26 : decode cX1_liftJoker 26 = .ok (.isub, 1) := by decide +kernel
theorem dX1_liftJoker_27 : decode cX1_liftJoker 27 = .ok (.putfield 46, 3) := by decide +kernel
theorem dX1_liftJoker_30 : decode cX1_liftJoker 30 = .ok (.return_, 1) := by decide +kernel
theorem dX1_undoAll_0 : decode cX1_undoAll 0 = .ok (.aload_n 0, 1) := by decide +kernel
theorem dX1_undoAll_1 : decode cX1_undoAll 1 = .ok (.getfield 36, 3) := by decide +kernel
theorem dX1_undoAll_4 : decode cX1_undoAll 4 = .ok (.istore_n 2, 1) := by decide +kernel
theorem dX1_undoAll_5 : decode cX1_undoAll 5 = .ok (.iload_n 2, 1) := by decide +kernel
theorem dX1_undoAll_6 : decode cX1_undoAll 6 = .ok (.ifCond .le 15, 3) := by decide +kernel
theorem dX1_undoAll_9 : decode cX1_undoAll 9 = .ok (.aload_n 0, 1) := by decide +kernel
theorem dX1_undoAll_10 : decode cX1_undoAll 10 = .ok (.iload_n 1, 1) := by decide +kernel
theorem dX1_undoAll_11 : decode cX1_undoAll 11 = .ok (.invokevirtual 122, 3) := by decide +kernel
theorem dX1_undoAll_14 : decode cX1_undoAll 14 = .ok (.pop, 1) := by decide +kernel
theorem dX1_undoAll_15 : decode cX1_undoAll 15 = .ok (.iinc 2 (-1), 3) := by decide +kernel
theorem dX1_undoAll_18 : decode cX1_undoAll 18 = .ok (.goto (-13), 3) := by decide +kernel
theorem dX1_undoAll_21 : decode cX1_undoAll 21 = .ok (.return_, 1) := by decide +kernel
theorem dX1_settle_0 : decode cX1_settle 0 = .ok (.aload_n 0, 1) := by decide +kernel
theorem dX1_settle_1 : decode cX1_settle 1 = .ok (.iconst 0, 1) := by decide +kernel
theorem dX1_settle_2 : decode cX1_settle 2 = .ok (.putfield 36, 3) := by decide +kernel
theorem dX1_settle_5 : decode cX1_settle 5 = .ok (.aload_n 0, 1) := by decide +kernel
theorem dX1_settle_6 : decode cX1_settle 6 = .ok (.dup, 1) := by decide +kernel
theorem dX1_settle_7 : decode cX1_settle 7 = .ok (.getfield 52, 3) := by decide +kernel
theorem dX1_settle_10 : decode cX1_settle 10 = .ok (.iconst 1, 1) := by decide +kernel
theorem dX1_settle_11 : decode cX1_settle 11 = .ok (.iadd, 1) := by decide +kernel
theorem dX1_settle_12 : decode cX1_settle 12 = .ok (.putfield 52, 3) := by decide +kernel
theorem dX1_settle_15 : decode cX1_settle 15 = .ok (.return_, 1) := by decide +kernel
theorem dX1_isLike_0 : decode cX1_isLike 0 = .ok (.aload_n 0, 1) := by decide +kernel
theorem dX1_isLike_1 : decode cX1_isLike 1 = .ok (.getfield 9, 3) := by decide +kernel
theorem dX1_isLike_4 : decode cX1_isLike 4 = .ok (.aload_n 1, 1) := by decide +kernel
theorem dX1_isLike_5 : decode cX1_isLike 5 = .ok (.getfield 9, 3) := by decide +kernel
theorem dX1_isLike_8 : decode cX1_isLike 8 = .ok (.invokestatic 125, 3) := by decide +kernel
theorem dX1_isLike_11 : decode cX1_isLike 11 = .ok (.ifCond .eq 49, 3) := by decide +kernel
theorem dX1_isLike_14 : decode cX1_isLike 14 = .ok (.aload_n 0, 1) := by decide +kernel
theorem dX1_isLike_15 : decode cX1_isLike 15 = .ok (.getfield 15, 3) := by decide +kernel
theorem dX1_isLike_18 : decode cX1_isLike 18 = .ok (.aload_n 1, 1) := by decide +kernel
theorem dX1_isLike_19 : decode cX1_isLike 19 = .ok (.getfield 15, 3) := by decide +kernel
theorem dX1_isLike_22 : decode cX1_isLike 22 = .ok (.invokestatic 125, 3) := by decide +kernel
theorem dX1_isLike_25 : decode cX1_isLike 25 = .ok (.ifCond .eq 35, 3) := by decide +kernel
theorem dX1_isLike_28 : decode cX1_isLike 28 = .ok (.aload_n 0, 1) := by decide +kernel
theorem dX1_isLike_29 : decode cX1_isLike 29 = .ok (.getfield 21, 3) := by decide +kernel
theorem dX1_isLike_32 : decode cX1_isLike 32 = .ok (.aload_n 1, 1) := by decide +kernel
theorem dX1_isLike_33 : decode cX1_isLike 33 = .ok (.getfield 21, 3) := by decide +kernel
theorem dX1_isLike_36 : decode cX1_isLike 36 = .ok (.invokestatic 125, 3) := by decide +kernel
theorem dX1_isLike_39 : decode cX1_isLike 39 = .ok (.ifCond .eq 21, 3) := by decide +kernel
theorem dX1_isLike_42 : decode cX1_isLike 42 = .ok (.aload_n 0, 1) := by decide +kernel
theorem dX1_isLike_43 : decode cX1_isLike 43 = .ok (.getfield 24, 3) := by decide +kernel
theorem dX1_isLike_46 : decode cX1_isLike 46 = .ok (.aload_n 1, 1) := by decide +kernel
theorem dX1_isLike_47 : decode cX1_isLike 47 = .ok (.getfield 24, 3) := by decide +kernel
theorem dX1_isLike_50 : decode cX1_isLike 50 = .ok (.invokestatic 125, 3) := by decide +kernel
theorem dX1_isLike_53 : decode cX1_isLike 53 = .ok (.ifCond .eq 7, 3) := by decide +kernel
theorem dX1_isLike_56 : decode cX1_isLike 56 = .ok (.iconst 1, 1) := by decide +kernel
theorem dX1_isLike_57 : decode cX1_isLike 57 = .ok (.goto 4, 3) := by decide +kernel
theorem dX1_isLike_60 : decode cX1_isLike 60 = .ok (.iconst 0, 1) := by decide +kernel
theorem dX1_isLike_61 : decode cX1_isLike 61 = .ok (.ireturn, 1) := by decide +kernel
theorem dX1_isSame_0 : decode cX1_isSame 0 = .ok (.iconst 0, 1) := by decide +kernel
theorem dX1_isSame_1 : decode cX1_isSame 1 = .ok (.istore_n 2, 1) := by decide +kernel
theorem dX1_isSame_2 : decode cX1_isSame 2 = .ok (.iload_n 2, 1) := by decide +kernel
theorem dX1_isSame_3 : decode cX1_isSame 3 = .ok (.aload_n 0, 1) := by decide +kernel
theorem dX1_isSame_4 : decode cX1_isSame 4 = .ok (.arraylength, 1) := by decide +kernel
theorem dX1_isSame_5 : decode cX1_isSame 5 = .ok (.if_icmp .ge 22, 3) := by decide +kernel
theorem dX1_isSame_8 : decode cX1_isSame 8 = .ok (.aload_n 0, 1) := by decide +kernel
theorem dX1_isSame_9 : decode cX1_isSame 9 = .ok (.iload_n 2, 1) := by decide +kernel
theorem dX1_isSame_10 : decode cX1_isSame 10 = .ok (.iaload, 1) := by decide +kernel
theorem dX1_isSame_11 : decode cX1_isSame 11 = .ok (.aload_n 1, 1) := by decide +kernel
theorem dX1_isSame_12 : decode cX1_isSame 12 = .ok (.iload_n 2, 1) := by decide +kernel
theorem dX1_isSame_13 : decode cX1_isSame 13 = .ok (.invokestatic 89, 3) := by decide +kernel
theorem dX1_isSame_16 : decode cX1_isSame 16 = .ok (.if_icmp .eq 5, 3) := by decide +kernel
theorem dX1_isSame_19 : decode cX1_isSame 19 = .ok (.iconst 0, 1) := by decide +kernel
theorem dX1_isSame_20 : decode cX1_isSame 20 = .ok (.ireturn, 1) := by decide +kernel
theorem dX1_isSame_21 : decode cX1_isSame 21 = .ok (.iinc 2 1, 3) := by decide +kernel
theorem dX1_isSame_24 : decode cX1_isSame 24 = .ok (.goto (-22), 3) := by decide +kernel
theorem dX1_isSame_27 : decode cX1_isSame 27 = .ok (.aload_n 0, 1) := by decide +kernel
theorem dX1_isSame_28 : decode cX1_isSame 28 = .ok (.arraylength, 1) := by decide +kernel
theorem dX1_isSame_29 : decode cX1_isSame 29 = .ok (.aload_n 1, 1) := by decide +kernel
theorem dX1_isSame_30 : decode cX1_isSame 30 = .ok (.arraylength, 1) := by decide +kernel
theorem dX1_isSame_31 : decode cX1_isSame 31 = .ok (.if_icmp .ne 7, 3) := by decide +kernel
theorem dX1_isSame_34 : decode cX1_isSame 34 = .ok (.iconst 1, 1) := by decide +kernel
theorem dX1_isSame_35 : decode cX1_isSame 35 = .ok (.goto 4, 3) := by decide +kernel
theorem dX1_isSame_38 : decode cX1_isSame 38 = .ok (.iconst 0, 1) := by decide +kernel
theorem dX1_isSame_39 : decode cX1_isSame 39 = .ok (.ireturn, 1) := by decide +kernel
theorem dX2_init_0 : decode cX2_init 0 = .ok (.aload_n 0, 1) := by decide +kernel
theorem dX2_init_1 : decode cX2_init 1 = .ok (.invokespecial 1, 3) := by decide +kernel
theorem dX2_init_4 : decode cX2_init 4 = .ok (.aload_n 0, 1) := by decide +kernel
theorem dX2_init_5 : decode cX2_init 5 = .ok (.sipush 1024, 3) := by decide +kernel
theorem dX2_init_8 : decode cX2_init 8 = .ok (.newarray .int, 2) := by decide +kernel
theorem dX2_init_10 : decode cX2_init 10 = .ok (.putfield 9, 3) := by decide +kernel
theorem dX2_init_13 : decode cX2_init 13 = .ok (.return_, 1) := by decide +kernel
theorem dX2_clear_0 : decode cX2_clear 0 = .ok (.aload_n 0, 1) := by decide +kernel
theorem dX2_clear_1 : decode cX2_clear 1 = .ok (.iconst 0, 1) := by decide +kernel
theorem dX2_clear_2 : decode cX2_clear 2 = .ok (.putfield 13, 3) := by decide +kernel
theorem dX2_clear_5 : decode cX2_clear 5 = .ok (.aload_n 0, 1) := by decide +kernel
theorem dX2_clear_6 : decode cX2_clear 6 = .ok (.iconst 0, 1) := by decide +kernel
theorem dX2_clear_7 : decode cX2_clear 7 = .ok (.putfield 17, 3) := by decide +kernel
theorem dX2_clear_10 : decode cX2_clear 10 = .ok (.return_, 1) := by decide +kernel
theorem dX2_startRound_0 : decode cX2_startRound 0 = .ok (.aload_n 0, 1) := by decide +kernel
theorem dX2_startRound_1 : decode cX2_startRound 1 = .ok (.iconst 0, 1) := by decide +kernel
theorem dX2_startRound_2 : decode cX2_startRound 2 = .ok (.putfield 13, 3) := by decide +kernel
theorem dX2_startRound_5 : decode cX2_startRound 5 = .ok (.aload_n 0, 1) := by decide +kernel
theorem dX2_startRound_6 : decode cX2_startRound 6 = .ok (.iconst 1, 1) := by decide +kernel
theorem dX2_startRound_7 : decode cX2_startRound 7 = .ok (.putfield 17, 3) := by decide +kernel
theorem dX2_startRound_10 : decode cX2_startRound 10 = .ok (.aload_n 0, 1) := by decide +kernel
theorem dX2_startRound_11 : decode cX2_startRound 11 = .ok (.iload_n 1, 1) := by decide +kernel
theorem dX2_startRound_12 : decode cX2_startRound 12 = .ok (.putfield 21, 3) := by decide +kernel
theorem dX2_startRound_15 : decode cX2_startRound 15 = .ok (.aload_n 0, 1) := by decide +kernel
theorem dX2_startRound_16 : decode cX2_startRound 16 = .ok (.iload_n 2, 1) := by decide +kernel
theorem dX2_startRound_17 : decode cX2_startRound 17 = .ok (.putfield 24, 3) := by decide +kernel
theorem dX2_startRound_20 : decode cX2_startRound 20 = .ok (.aload_n 0, 1) := by decide +kernel
theorem dX2_startRound_21 : decode cX2_startRound 21 = .ok (.iload_n 3, 1) := by decide +kernel
theorem dX2_startRound_22 : decode cX2_startRound 22 = .ok (.putfield 27, 3) := by decide +kernel
theorem dX2_startRound_25 : decode cX2_startRound 25 = .ok (.return_, 1) := by decide +kernel
theorem dX2_add_0 : decode cX2_add 0 = .ok (.aload_n 0, 1) := by decide +kernel
theorem dX2_add_1 : decode cX2_add 1 = .ok (.getfield 13, 3) := by decide +kernel
theorem dX2_add_4 : decode cX2_add 4 = .ok (.sipush 1024, 3) := by decide +kernel
theorem dX2_add_7 : decode cX2_add 7 = .ok (.if_icmp .ge 39, 3) := by decide +kernel
theorem dX2_add_10 : decode cX2_add 10 = .ok (.aload_n 0, 1) := by decide +kernel
theorem dX2_add_11 : decode cX2_add 11 = .ok (.getfield 9, 3) := by decide +kernel
theorem dX2_add_14 : decode cX2_add 14 = .ok (.aload_n 0, 1) := by decide +kernel
theorem dX2_add_15 : decode cX2_add 15 = .ok (.getfield 13, 3) := by decide +kernel
theorem dX2_add_18 : decode cX2_add 18 = .ok (.iload_n 1, 1) := by decide +kernel
theorem dX2_add_19 : decode cX2_add 19 = .ok (.iload_n 2, 1) := by decide +kernel
theorem dX2_add_20 : decode cX2_add 20 = .ok (.iconst 3, 1) := by decide +kernel
theorem dX2_add_21 : decode cX2_add 21 = .ok (.ishl, 1) := by decide +kernel
theorem dX2_add_22 : decode cX2_add 22 = .ok (.ior, 1) := by decide +kernel
theorem dX2_add_23 : decode cX2_add 23 = .ok (.iload_n 3, 1) := by decide +kernel
theorem dX2_add_24 : decode cX2_add 24 = .ok (.iconst 1, 1) := by decide +kernel
theorem dX2_add_25 : decode cX2_add 25 = .ok (.iadd, 1) := by decide +kernel
theorem dX2_add_26 : decode cX2_add 26 = .ok (.iconst 5, 1) := by decide +kernel
theorem dX2_add_27 : decode cX2_add 27 = .ok (.ishl, 1) := by decide +kernel
theorem dX2_add_28 : decode cX2_add 28 = .ok (.ior, 1) := by decide +kernel
theorem dX2_add_29 : decode cX2_add 29 = .ok (.iload 4, 2) := by decide +kernel
theorem dX2_add_31 : decode cX2_add 31 = .ok (.bipush 11, 2) := by decide +kernel
theorem dX2_add_33 : decode cX2_add 33 = .ok (.ishl, 1) := by decide +kernel
theorem dX2_add_34 : decode cX2_add 34 = .ok (.ior, 1) := by decide +kernel
theorem dX2_add_35 : decode cX2_add 35 = .ok (.iastore, 1) := by decide +kernel
theorem dX2_add_36 : decode cX2_add 36 = .ok (.aload_n 0, 1) := by decide +kernel
theorem dX2_add_37 : decode cX2_add 37 = .ok (.dup, 1) := by decide +kernel
theorem dX2_add_38 : decode cX2_add 38 = .ok (.getfield 13, 3) := by decide +kernel
theorem dX2_add_41 : decode cX2_add 41 = .ok (.iconst 1, 1) := by decide +kernel
theorem dX2_add_42 : decode cX2_add 42 = .ok (.iadd, 1) := by decide +kernel
theorem dX2_add_43 : decode cX2_add 43 = .ok (.putfield 13, 3) := by decide +kernel
theorem dX2_add_46 : decode cX2_add 46 = .ok (.return_, 1) := by decide +kernel
theorem dX2_sort_0 : decode cX2_sort 0 = .ok (.aload_n 0, 1) := by decide +kernel
theorem dX2_sort_1 : decode cX2_sort 1 = .ok (.getfield 9, 3) := by decide +kernel
theorem dX2_sort_4 : decode cX2_sort 4 = .ok (.iload_n 1, 1) := by decide +kernel
theorem dX2_sort_5 : decode cX2_sort 5 = .ok (.invokestatic 30, 3) := by decide +kernel
theorem dX2_sort_8 : decode cX2_sort 8 = .ok (.bipush 7, 2) := by decide +kernel
theorem dX2_sort_10 : decode cX2_sort 10 = .ok (.iand, 1) := by decide +kernel
theorem dX2_sort_11 : decode cX2_sort 11 = .ok (.ireturn, 1) := by decide +kernel
theorem dX2_who_0 : decode cX2_who 0 = .ok (.aload_n 0, 1) := by decide +kernel
theorem dX2_who_1 : decode cX2_who 1 = .ok (.getfield 9, 3) := by decide +kernel
theorem dX2_who_4 : decode cX2_who 4 = .ok (.iload_n 1, 1) := by decide +kernel
theorem dX2_who_5 : decode cX2_who 5 = .ok (.invokestatic 30, 3) := by decide +kernel
theorem dX2_who_8 : decode cX2_who 8 = .ok (.iconst 3, 1) := by decide +kernel
theorem dX2_who_9 : decode cX2_who 9 = .ok (.ishr, 1) := by decide +kernel
theorem dX2_who_10 : decode cX2_who 10 = .ok (.iconst 3, 1) := by decide +kernel
theorem dX2_who_11 : decode cX2_who 11 = .ok (.iand, 1) := by decide +kernel
theorem dX2_who_12 : decode cX2_who 12 = .ok (.ireturn, 1) := by decide +kernel
theorem dX2_kind_0 : decode cX2_kind 0 = .ok (.aload_n 0, 1) := by decide +kernel
theorem dX2_kind_1 : decode cX2_kind 1 = .ok (.getfield 9, 3) := by decide +kernel
theorem dX2_kind_4 : decode cX2_kind 4 = .ok (.iload_n 1, 1) := by decide +kernel
theorem dX2_kind_5 : decode cX2_kind 5 = .ok (.invokestatic 30, 3) := by decide +kernel
theorem dX2_kind_8 : decode cX2_kind 8 = .ok (.iconst 5, 1) := by decide +kernel
theorem dX2_kind_9 : decode cX2_kind 9 = .ok (.ishr, 1) := by decide +kernel
theorem dX2_kind_10 : decode cX2_kind 10 = .ok (.bipush 63, 2) := by decide +kernel
theorem dX2_kind_12 : decode cX2_kind 12 = .ok (.iand, 1) := by decide +kernel
theorem dX2_kind_13 : decode cX2_kind 13 = .ok (.iconst 1, 1) := by decide +kernel
theorem dX2_kind_14 : decode cX2_kind 14 = .ok (.isub, 1) := by decide +kernel
theorem dX2_kind_15 : decode cX2_kind 15 = .ok (.ireturn, 1) := by decide +kernel
theorem dX2_drawn_0 : decode cX2_drawn 0 = .ok (.aload_n 0, 1) := by decide +kernel
theorem dX2_drawn_1 : decode cX2_drawn 1 = .ok (.getfield 9, 3) := by decide +kernel
theorem dX2_drawn_4 : decode cX2_drawn 4 = .ok (.iload_n 1, 1) := by decide +kernel
theorem dX2_drawn_5 : decode cX2_drawn 5 = .ok (.invokestatic 30, 3) := by decide +kernel
theorem dX2_drawn_8 : decode cX2_drawn 8 = .ok (.bipush 11, 2) := by decide +kernel
theorem dX2_drawn_10 : decode cX2_drawn 10 = .ok (.ishr, 1) := by decide +kernel
theorem dX2_drawn_11 : decode cX2_drawn 11 = .ok (.ireturn, 1) := by decide +kernel
theorem dX3_init_0 : decode cX3_init 0 = .ok (.aload_n 0, 1) := by decide +kernel
theorem dX3_init_1 : decode cX3_init 1 = .ok (.invokespecial 1, 3) := by decide +kernel
theorem dX3_init_4 : decode cX3_init 4 = .ok (.aload_n 0, 1) := by decide +kernel
theorem dX3_init_5 : decode cX3_init 5 = .ok (.sipush 1024, 3) := by decide +kernel
theorem dX3_init_8 : decode cX3_init 8 = .ok (.newarray .int, 2) := by decide +kernel
theorem dX3_init_10 : decode cX3_init 10 = .ok (.putfield 9, 3) := by decide +kernel
theorem dX3_init_13 : decode cX3_init 13 = .ok (.aload_n 0, 1) := by decide +kernel
theorem dX3_init_14 : decode cX3_init 14 = .ok (.sipush 1024, 3) := by decide +kernel
theorem dX3_init_17 : decode cX3_init 17 = .ok (.newarray .long, 2) := by decide +kernel
theorem dX3_init_19 : decode cX3_init 19 = .ok (.putfield 13, 3) := by decide +kernel
theorem dX3_init_22 : decode cX3_init 22 = .ok (.aload_n 0, 1) := by decide +kernel
theorem dX3_init_23 : decode cX3_init 23 = .ok (.sipush 1024, 3) := by decide +kernel
theorem dX3_init_26 : decode cX3_init 26 = .ok (.newarray .long, 2) := by decide +kernel
theorem dX3_init_28 : decode cX3_init 28 = .ok (.putfield 17, 3) := by decide +kernel
theorem dX3_init_31 : decode cX3_init 31 = .ok (.return_, 1) := by decide +kernel
theorem dX3_grow_0 : decode cX3_grow 0 = .ok (.iconst 2, 1) := by decide +kernel
theorem dX3_grow_1 : decode cX3_grow 1 = .ok (.aload_n 0, 1) := by decide +kernel
theorem dX3_grow_2 : decode cX3_grow 2 = .ok (.getfield 9, 3) := by decide +kernel
theorem dX3_grow_5 : decode cX3_grow 5 = .ok (.arraylength, 1) := by decide +kernel
theorem dX3_grow_6 : decode cX3_grow 6 = .ok (.imul, 1) := by decide +kernel
theorem dX3_grow_7 : decode cX3_grow 7 = .ok (.ldc 20, 2) := by decide +kernel
theorem dX3_grow_9 : decode cX3_grow 9 = .ok (.invokestatic 21, 3) := by decide +kernel
theorem dX3_grow_12 : decode cX3_grow 12 = .ok (.istore_n 1, 1) := by decide +kernel
theorem dX3_grow_13 : decode cX3_grow 13 = .ok (.aload_n 0, 1) := by decide +kernel
theorem dX3_grow_14 : decode cX3_grow 14 = .ok (.aload_n 0, 1) := by decide +kernel
theorem dX3_grow_15 : decode cX3_grow 15 = .ok (.getfield 9, 3) := by decide +kernel
theorem dX3_grow_18 : decode cX3_grow 18 = .ok (.iload_n 1, 1) := by decide +kernel
theorem dX3_grow_19 : decode cX3_grow 19 = .ok (.invokestatic 27, 3) := by decide +kernel
theorem dX3_grow_22 : decode cX3_grow 22 = .ok (.putfield 9, 3) := by decide +kernel
theorem dX3_grow_25 : decode cX3_grow 25 = .ok (.aload_n 0, 1) := by decide +kernel
theorem dX3_grow_26 : decode cX3_grow 26 = .ok (.aload_n 0, 1) := by decide +kernel
theorem dX3_grow_27 : decode cX3_grow 27 = .ok (.getfield 13, 3) := by decide +kernel
theorem dX3_grow_30 : decode cX3_grow 30 = .ok (.iload_n 1, 1) := by decide +kernel
theorem dX3_grow_31 : decode cX3_grow 31 = .ok (.invokestatic 33, 3) := by decide +kernel
theorem dX3_grow_34 : decode cX3_grow 34 = .ok (.putfield 13, 3) := by decide +kernel
theorem dX3_grow_37 : decode cX3_grow 37 = .ok (.aload_n 0, 1) := by decide +kernel
theorem dX3_grow_38 : decode cX3_grow 38 = .ok (.aload_n 0, 1) := by decide +kernel
theorem dX3_grow_39 : decode cX3_grow 39 = .ok (.getfield 17, 3) := by decide +kernel
theorem dX3_grow_42 : decode cX3_grow 42 = .ok (.iload_n 1, 1) := by decide +kernel
theorem dX3_grow_43 : decode cX3_grow 43 = .ok (.invokestatic 33, 3) := by decide +kernel
theorem dX3_grow_46 : decode cX3_grow 46 = .ok (.putfield 17, 3) := by decide +kernel
theorem dX3_grow_49 : decode cX3_grow 49 = .ok (.return_, 1) := by decide +kernel
theorem dX4_init_0 : decode cX4_init 0 = .ok (.aload_n 0, 1) := by decide +kernel
theorem dX4_init_1 : decode cX4_init 1 = .ok (.invokespecial 3, 3) := by decide +kernel
theorem dX4_init_4 : decode cX4_init 4 = .ok (.aload_n 0, 1) := by decide +kernel
theorem dX4_init_5 : decode cX4_init 5 = .ok (.bipush 24, 2) := by decide +kernel
theorem dX4_init_7 : decode cX4_init 7 = .ok (.newarray .int, 2) := by decide +kernel
theorem dX4_init_9 : decode cX4_init 9 = .ok (.putfield 9, 3) := by decide +kernel
theorem dX4_init_12 : decode cX4_init 12 = .ok (.aload_n 0, 1) := by decide +kernel
theorem dX4_init_13 : decode cX4_init 13 = .ok (.iconst (-1), 1) := by decide +kernel
theorem dX4_init_14 : decode cX4_init 14 = .ok (.putfield 15, 3) := by decide +kernel
theorem dX4_init_17 : decode cX4_init 17 = .ok (.aload_n 0, 1) := by decide +kernel
theorem dX4_init_18 : decode cX4_init 18 = .ok (.iconst (-1), 1) := by decide +kernel
theorem dX4_init_19 : decode cX4_init 19 = .ok (.putfield 19, 3) := by decide +kernel
theorem dX4_init_22 : decode cX4_init 22 = .ok (.return_, 1) := by decide +kernel
theorem dX4_unpack_0 : decode cX4_unpack 0 = .ok (.aload_n 0, 1) := by decide +kernel
theorem dX4_unpack_1 : decode cX4_unpack 1 = .ok (.iconst 0, 1) := by decide +kernel
theorem dX4_unpack_2 : decode cX4_unpack 2 = .ok (.putfield 22, 3) := by decide +kernel
theorem dX4_unpack_5 : decode cX4_unpack 5 = .ok (.aload_n 0, 1) := by decide +kernel
theorem dX4_unpack_6 : decode cX4_unpack 6 = .ok (.iconst 0, 1) := by decide +kernel
theorem dX4_unpack_7 : decode cX4_unpack 7 = .ok (.putfield 25, 3) := by decide +kernel
theorem dX4_unpack_10 : decode cX4_unpack 10 = .ok (.iconst 0, 1) := by decide +kernel
theorem dX4_unpack_11 : decode cX4_unpack 11 = .ok (.istore 5, 2) := by decide +kernel
theorem dX4_unpack_13 : decode cX4_unpack 13 = .ok (.aload_n 0, 1) := by decide +kernel
theorem dX4_unpack_14 : decode cX4_unpack 14 = .ok (.getfield 28, 3) := by decide +kernel
theorem dX4_unpack_17 : decode cX4_unpack 17 = .ok (.ifCond .eq 80, 3) := by decide +kernel
theorem dX4_unpack_20 : decode cX4_unpack 20 = .ok (.iload 5, 2) := by decide +kernel
theorem dX4_unpack_22 : decode cX4_unpack 22 = .ok (.bipush 52, 2) := by decide +kernel
theorem dX4_unpack_24 : decode cX4_unpack 24 = .ok (.if_icmp .ge 73, 3) := by decide +kernel
theorem dX4_unpack_27 : decode cX4_unpack 27 = .ok (.lload_n 1, 1) := by decide +kernel
theorem dX4_unpack_28 : decode cX4_unpack 28 = .ok (.lload_n 3, 1) := by decide +kernel
theorem dX4_unpack_29 : decode cX4_unpack 29 = .ok (.iload 5, 2) := by decide +kernel
theorem dX4_unpack_31 : decode cX4_unpack 31 = .ok (.invokestatic 32, 3) := by decide +kernel
theorem dX4_unpack_34 : decode cX4_unpack 34 = .ok (.istore 6, 2) := by decide +kernel
theorem dX4_unpack_36 : decode cX4_unpack 36 = .ok (.iconst 0, 1) := by decide +kernel
theorem dX4_unpack_37 : decode cX4_unpack 37 = .ok (.istore 7, 2) := by decide +kernel
theorem dX4_unpack_39 : decode cX4_unpack 39 = .ok (.iload 7, 2) := by decide +kernel
theorem dX4_unpack_41 : decode cX4_unpack 41 = .ok (.iload 6, 2) := by decide +kernel
theorem dX4_unpack_43 : decode cX4_unpack 43 = .ok (.if_icmp .ge 48, 3) := by decide +kernel
theorem dX4_unpack_46 : decode cX4_unpack 46 = .ok (.aload_n 0, 1) := by decide +kernel
theorem dX4_unpack_47 : decode cX4_unpack 47 = .ok (.getfield 9, 3) := by decide +kernel
theorem dX4_unpack_50 : decode cX4_unpack 50 = .ok (.aload_n 0, 1) := by decide +kernel
theorem dX4_unpack_51 : decode cX4_unpack 51 = .ok (.getfield 22, 3) := by decide +kernel
theorem dX4_unpack_54 : decode cX4_unpack 54 = .ok (.iload 5, 2) := by decide +kernel
theorem dX4_unpack_56 : decode cX4_unpack 56 = .ok (.invokestatic 38, 3) := by decide +kernel
theorem dX4_unpack_59 : decode cX4_unpack 59 = .ok (.aload_n 0, 1) := by decide +kernel
theorem dX4_unpack_60 : decode cX4_unpack 60 = .ok (.dup, 1) := by decide +kernel
theorem dX4_unpack_61 : decode cX4_unpack 61 = .ok (.getfield 22, 3) := by decide +kernel
theorem dX4_unpack_64 : decode cX4_unpack 64 = .ok (.iconst 1, 1) := by decide +kernel
theorem dX4_unpack_65 : decode cX4_unpack 65 = .ok (.iadd, 1) := by decide +kernel
theorem dX4_unpack_66 : decode cX4_unpack 66 = .ok (.putfield 22, 3) := by decide +kernel
theorem dX4_unpack_69 : decode cX4_unpack 69 = .ok (.aload_n 0, 1) := by decide +kernel
theorem dX4_unpack_70 : decode cX4_unpack 70 = .ok (.dup, 1) := by decide +kernel
theorem dX4_unpack_71 : decode cX4_unpack 71 = .ok (.getfield 25, 3) := by decide +kernel
theorem dX4_unpack_74 : decode cX4_unpack 74 = .ok (.iload 5, 2) := by decide +kernel
theorem dX4_unpack_76 : decode cX4_unpack 76 = .ok (.bipush 13, 2) := by decide +kernel
theorem dX4_unpack_78 : decode cX4_unpack 78 = .ok (.irem, 1) := by decide +kernel
theorem dX4_unpack_79 : decode cX4_unpack 79 = .ok (.iconst 1, 1) := by decide +kernel
theorem dX4_unpack_80 : decode cX4_unpack 80 = .ok (.iadd, 1) := by decide +kernel
theorem dX4_unpack_81 : decode cX4_unpack 81 = .ok (.iadd, 1) := by decide +kernel
theorem dX4_unpack_82 : decode cX4_unpack 82 = .ok (.putfield 25, 3) := by decide +kernel
theorem dX4_unpack_85 : decode cX4_unpack 85 = .ok (.iinc 7 1, 3) := by decide +kernel
theorem dX4_unpack_88 : decode cX4_unpack 88 = .ok (.goto (-49), 3) := by decide +kernel
theorem dX4_unpack_91 : decode cX4_unpack 91 = .ok (.iinc 5 1, 3) := by decide +kernel
theorem dX4_unpack_94 : decode cX4_unpack 94 = .ok (.goto (-81), 3) := by decide +kernel
theorem dX4_unpack_97 : decode cX4_unpack 97 = .ok (.return_, 1) := by decide +kernel
theorem dX4_kindAt_0 : decode cX4_kindAt 0 = .ok (.aload_n 0, 1) := by decide +kernel
theorem dX4_kindAt_1 : decode cX4_kindAt 1 = .ok (.getfield 28, 3) := by decide +kernel
theorem dX4_kindAt_4 : decode cX4_kindAt 4 = .ok (.ifCond .eq 22, 3) := by decide +kernel
theorem dX4_kindAt_7 : decode cX4_kindAt 7 = .ok (.iload_n 1, 1) := by decide +kernel
theorem dX4_kindAt_8 : decode cX4_kindAt 8 = .ok (.aload_n 0, 1) := by decide +kernel
theorem dX4_kindAt_9 : decode cX4_kindAt 9 = .ok (.getfield 22, 3) := by decide +kernel
theorem dX4_kindAt_12 : decode cX4_kindAt 12 = .ok (.if_icmp .ge 14, 3) := by decide +kernel
theorem dX4_kindAt_15 : decode cX4_kindAt 15 = .ok (.aload_n 0, 1) := by decide +kernel
theorem dX4_kindAt_16 : decode cX4_kindAt 16 = .ok (.getfield 9, 3) := by decide +kernel
theorem dX4_kindAt_19 : decode cX4_kindAt 19 = .ok (.iload_n 1, 1) := by decide +kernel
theorem dX4_kindAt_20 : decode cX4_kindAt 20 = .ok (.invokestatic 42, 3) := by decide +kernel
theorem dX4_kindAt_23 : decode cX4_kindAt 23 = .ok (.goto 4, 3) := by decide +kernel
theorem dX4_kindAt_26 : decode cX4_kindAt 26 = .ok (.iconst (-1), 1) := by decide +kernel
theorem dX4_kindAt_27 : decode cX4_kindAt 27 = .ok (.ireturn, 1) := by decide +kernel
theorem dX5_init_0 : decode cX5_init 0 = .ok (.aload_n 0, 1) := by decide +kernel
theorem dX5_init_1 : decode cX5_init 1 = .ok (.invokespecial 3, 3) := by decide +kernel
theorem dX5_init_4 : decode cX5_init 4 = .ok (.aload_n 0, 1) := by decide +kernel
theorem dX5_init_5 : decode cX5_init 5 = .ok (.bipush 13, 2) := by decide +kernel
theorem dX5_init_7 : decode cX5_init 7 = .ok (.putfield 9, 3) := by decide +kernel
theorem dX5_init_10 : decode cX5_init 10 = .ok (.aload_n 0, 1) := by decide +kernel
theorem dX5_init_11 : decode cX5_init 11 = .ok (.iconst 3, 1) := by decide +kernel
theorem dX5_init_12 : decode cX5_init 12 = .ok (.putfield 15, 3) := by decide +kernel
theorem dX5_init_15 : decode cX5_init 15 = .ok (.aload_n 0, 1) := by decide +kernel
theorem dX5_init_16 : decode cX5_init 16 = .ok (.iconst 2, 1) := by decide +kernel
theorem dX5_init_17 : decode cX5_init 17 = .ok (.putfield 18, 3) := by decide +kernel
theorem dX5_init_20 : decode cX5_init 20 = .ok (.aload_n 0, 1) := by decide +kernel
theorem dX5_init_21 : decode cX5_init 21 = .ok (.bipush 30, 2) := by decide +kernel
theorem dX5_init_23 : decode cX5_init 23 = .ok (.putfield 21, 3) := by decide +kernel
theorem dX5_init_26 : decode cX5_init 26 = .ok (.aload_n 0, 1) := by decide +kernel
theorem dX5_init_27 : decode cX5_init 27 = .ok (.iconst 3, 1) := by decide +kernel
theorem dX5_init_28 : decode cX5_init 28 = .ok (.putfield 24, 3) := by decide +kernel
theorem dX5_init_31 : decode cX5_init 31 = .ok (.return_, 1) := by decide +kernel
theorem dX5_isKind_0 : decode cX5_isKind 0 = .ok (.iload_n 1, 1) := by decide +kernel
theorem dX5_isKind_1 : decode cX5_isKind 1 = .ok (.ifCond .lt 24, 3) := by decide +kernel
theorem dX5_isKind_4 : decode cX5_isKind 4 = .ok (.iload_n 1, 1) := by decide +kernel
theorem dX5_isKind_5 : decode cX5_isKind 5 = .ok (.bipush 52, 2) := by decide +kernel
theorem dX5_isKind_7 : decode cX5_isKind 7 = .ok (.if_icmp .ge 18, 3) := by decide +kernel
theorem dX5_isKind_10 : decode cX5_isKind 10 = .ok (.iload_n 1, 1) := by decide +kernel
theorem dX5_isKind_11 : decode cX5_isKind 11 = .ok (.bipush 13, 2) := by decide +kernel
theorem dX5_isKind_13 : decode cX5_isKind 13 = .ok (.irem, 1) := by decide +kernel
theorem dX5_isKind_14 : decode cX5_isKind 14 = .ok (.aload_n 0, 1) := by decide +kernel
theorem dX5_isKind_15 : decode cX5_isKind 15 = .ok (.getfield 9, 3) := by decide +kernel
theorem dX5_isKind_18 : decode cX5_isKind 18 = .ok (.if_icmp .ge 7, 3) := by decide +kernel
theorem dX5_isKind_21 : decode cX5_isKind 21 = .ok (.iconst 1, 1) := by decide +kernel
theorem dX5_isKind_22 : decode cX5_isKind 22 = .ok (.goto 4, 3) := by decide +kernel
theorem dX5_isKind_25 : decode cX5_isKind 25 = .ok (.iconst 0, 1) := by decide +kernel
theorem dX5_isKind_26 : decode cX5_isKind 26 = .ok (.ireturn, 1) := by decide +kernel
theorem dX5_pieces_0 : decode cX5_pieces 0 = .ok (.bipush 8, 2) := by decide +kernel
theorem dX5_pieces_2 : decode cX5_pieces 2 = .ok (.aload_n 0, 1) := by decide +kernel
theorem dX5_pieces_3 : decode cX5_pieces 3 = .ok (.getfield 9, 3) := by decide +kernel
theorem dX5_pieces_6 : decode cX5_pieces 6 = .ok (.imul, 1) := by decide +kernel
theorem dX5_pieces_7 : decode cX5_pieces 7 = .ok (.aload_n 0, 1) := by decide +kernel
theorem dX5_pieces_8 : decode cX5_pieces 8 = .ok (.getfield 18, 3) := by decide +kernel
theorem dX5_pieces_11 : decode cX5_pieces 11 = .ok (.iadd, 1) := by decide +kernel
theorem dX5_pieces_12 : decode cX5_pieces 12 = .ok (.ireturn, 1) := by decide +kernel
theorem dX6_init_0 : decode cX6_init 0 = .ok (.aload_n 0, 1) := by decide +kernel
theorem dX6_init_1 : decode cX6_init 1 = .ok (.invokespecial 3, 3) := by decide +kernel
theorem dX6_init_4 : decode cX6_init 4 = .ok (.aload_n 0, 1) := by decide +kernel
theorem dX6_init_5 : decode cX6_init 5 = .ok (.iconst 4, 1) := by decide +kernel
theorem dX6_init_6 : decode cX6_init 6 = .ok (.newarray .int, 2) := by decide +kernel
theorem dX6_init_8 : decode cX6_init 8 = .ok (.putfield 9, 3) := by decide +kernel
theorem dX6_init_11 : decode cX6_init 11 = .ok (.aload_n 0, 1) := by decide +kernel
theorem dX6_init_12 : decode cX6_init 12 = .ok (.iconst 4, 1) := by decide +kernel
theorem dX6_init_13 : decode cX6_init 13 = .ok (.newarray .int, 2) := by decide +kernel
theorem dX6_init_15 : decode cX6_init 15 = .ok (.putfield 15, 3) := by decide +kernel
theorem dX6_init_18 : decode cX6_init 18 = .ok (.aload_n 0, 1) := by decide +kernel
theorem dX6_init_19 : decode cX6_init 19 = .ok (.iconst 4, 1) := by decide +kernel
theorem dX6_init_20 : decode cX6_init 20 = .ok (.newarray .int, 2) := by decide +kernel
theorem dX6_init_22 : decode cX6_init 22 = .ok (.putfield 18, 3) := by decide +kernel
theorem dX6_init_25 : decode cX6_init 25 = .ok (.aload_n 0, 1) := by decide +kernel
theorem dX6_init_26 : decode cX6_init 26 = .ok (.iconst 4, 1) := by decide +kernel
theorem dX6_init_27 : decode cX6_init 27 = .ok (.newarray .int, 2) := by decide +kernel
theorem dX6_init_29 : decode cX6_init 29 = .ok (.putfield 21, 3) := by decide +kernel
theorem dX6_init_32 : decode cX6_init 32 = .ok (.aload_n 0, 1) := by decide +kernel
theorem dX6_init_33 : decode cX6_init 33 = .ok (.iconst 4, 1) := by decide +kernel
theorem dX6_init_34 : decode cX6_init 34 = .ok (.newarray .int, 2) := by decide +kernel
theorem dX6_init_36 : decode cX6_init 36 = .ok (.putfield 24, 3) := by decide +kernel
theorem dX6_init_39 : decode cX6_init 39 = .ok (.aload_n 0, 1) := by decide +kernel
theorem dX6_init_40 : decode cX6_init 40 = .ok (.iconst 4, 1) := by decide +kernel
theorem dX6_init_41 : decode cX6_init 41 = .ok (.newarray .int, 2) := by decide +kernel
theorem dX6_init_43 : decode cX6_init 43 = .ok (.putfield 27, 3) := by decide +kernel
theorem dX6_init_46 : decode cX6_init 46 = .ok (.aload_n 0, 1) := by decide +kernel
theorem dX6_init_47 : decode cX6_init 47 = .ok (.iconst 4, 1) := by decide +kernel
theorem dX6_init_48 : decode cX6_init 48 = .ok (.newarray .int, 2) := by decide +kernel
theorem dX6_init_50 : decode cX6_init 50 = .ok (.putfield 30, 3) := by decide +kernel
theorem dX6_init_53 : decode cX6_init 53 = .ok (.aload_n 0, 1) := by decide +kernel
theorem dX6_init_54 : decode cX6_init 54 = .ok (.iconst 4, 1) := by decide +kernel
theorem dX6_init_55 : decode cX6_init 55 = .ok (.newarray .int, 2) := by decide +kernel
theorem dX6_init_57 : decode cX6_init 57 = .ok (.putfield 33, 3) := by decide +kernel
theorem dX6_init_60 : decode cX6_init 60 = .ok (.aload_n 0, 1) := by decide +kernel
theorem dX6_init_61 : decode cX6_init 61 = .ok (.iconst 4, 1) := by decide +kernel
theorem dX6_init_62 : decode cX6_init 62 = .ok (.newarray .int, 2) := by decide +kernel
theorem dX6_init_64 : decode cX6_init 64 = .ok (.putfield 36, 3) := by decide +kernel
theorem dX6_init_67 : decode cX6_init 67 = .ok (.aload_n 0, 1) := by decide +kernel
theorem dX6_init_68 : decode cX6_init 68 = .ok (.iconst 4, 1) := by decide +kernel
theorem dX6_init_69 : decode cX6_init 69 = .ok (.newarray .long, 2) := by decide +kernel
theorem dX6_init_71 : decode cX6_init 71 = .ok (.putfield 39, 3) := by decide +kernel
theorem dX6_init_74 : decode cX6_init 74 = .ok (.aload_n 0, 1) := by decide +kernel
theorem dX6_init_75 : decode cX6_init 75 = .ok (.sipush 208, 3) := by decide +kernel
theorem dX6_init_78 : decode cX6_init 78 = .ok (.newarray .int, 2) := by decide +kernel
theorem dX6_init_80 : decode cX6_init 80 = .ok (.putfield 43, 3) := by decide +kernel
theorem dX6_init_83 : decode cX6_init 83 = .ok (.return_, 1) := by decide +kernel
theorem dX6_add_0 : decode cX6_add 0 = .ok (.aload_n 0, 1) := by decide +kernel
theorem dX6_add_1 : decode cX6_add 1 = .ok (.getfield 46, 3) := by decide +kernel
theorem dX6_add_4 : decode cX6_add 4 = .ok (.istore_n 3, 1) := by decide +kernel
theorem dX6_add_5 : decode cX6_add 5 = .ok (.aload_n 0, 1) := by decide +kernel
theorem dX6_add_6 : decode cX6_add 6 = .ok (.getfield 9, 3) := by decide +kernel
theorem dX6_add_9 : decode cX6_add 9 = .ok (.iload_n 3, 1) := by decide +kernel
theorem dX6_add_10 : decode cX6_add 10 = .ok (.iload_n 1, 1) := by decide +kernel
theorem dX6_add_11 : decode cX6_add 11 = .ok (.invokestatic 50, 3) := by decide +kernel
theorem dX6_add_14 : decode cX6_add 14 = .ok (.aload_n 0, 1) := by decide +kernel
theorem dX6_add_15 : decode cX6_add 15 = .ok (.getfield 15, 3) := by decide +kernel
theorem dX6_add_18 : decode cX6_add 18 = .ok (.iload_n 3, 1) := by decide +kernel
theorem dX6_add_19 : decode cX6_add 19 = .ok (.iload_n 2, 1) := by decide +kernel
theorem dX6_add_20 : decode cX6_add 20 = .ok (.invokestatic 50, 3) := by decide +kernel
theorem dX6_add_23 : decode cX6_add 23 = .ok (.aload_n 0, 1) := by decide +kernel
theorem dX6_add_24 : decode cX6_add 24 = .ok (.getfield 36, 3) := by decide +kernel
theorem dX6_add_27 : decode cX6_add 27 = .ok (.iload_n 3, 1) := by decide +kernel
theorem dX6_add_28 : decode cX6_add 28 = .ok (.iload_n 3, 1) := by decide +kernel
theorem dX6_add_29 : decode cX6_add 29 = .ok (.invokestatic 50, 3) := by decide +kernel
theorem dX6_add_32 : decode cX6_add 32 = .ok (.aload_n 0, 1) := by decide +kernel
theorem dX6_add_33 : decode cX6_add 33 = .ok (.dup, 1) := by decide +kernel
theorem dX6_add_34 : decode cX6_add 34 = .ok (.getfield 46, 3) := by decide +kernel
theorem dX6_add_37 : decode cX6_add 37 = .ok (.iconst 1, 1) := by decide +kernel
theorem dX6_add_38 : decode cX6_add 38 = .ok (.iadd, 1) := by decide +kernel
theorem dX6_add_39 : decode cX6_add 39 = .ok (.putfield 46, 3) := by decide +kernel
theorem dX6_add_42 : decode cX6_add 42 = .ok (.iload_n 3, 1) := by decide +kernel
theorem dX6_add_43 : decode cX6_add 43 = .ok (.ireturn, 1) := by decide +kernel
theorem dX6_startRound_0 : decode cX6_startRound 0 = .ok (.iconst 0, 1) := by decide +kernel
theorem dX6_startRound_1 : decode cX6_startRound 1 = .ok (.istore_n 2, 1) := by decide +kernel
theorem dX6_startRound_2 : decode cX6_startRound 2 = .ok (.iload_n 2, 1) := by decide +kernel
theorem dX6_startRound_3 : decode cX6_startRound 3 = .ok (.aload_n 0, 1) := by decide +kernel
theorem dX6_startRound_4 : decode cX6_startRound 4 = .ok (.getfield 46, 3) := by decide +kernel
theorem dX6_startRound_7 : decode cX6_startRound 7 = .ok (.if_icmp .ge 18, 3) := by decide +kernel
theorem dX6_startRound_10 : decode cX6_startRound 10 = .ok (.aload_n 0, 1) := by decide +kernel
theorem dX6_startRound_11 : decode cX6_startRound 11 = .ok (.getfield 21, 3) := by decide +kernel
theorem dX6_startRound_14 : decode cX6_startRound 14 = .ok (.iload_n 2, 1) := by decide +kernel
theorem dX6_startRound_15 : decode cX6_startRound 15 = .ok (.iload_n 1, 1) := by decide +kernel
theorem dX6_startRound_16 : decode cX6_startRound 16 = .ok (.invokestatic 50, 3) := by decide +kernel
theorem dX6_startRound_19 : decode cX6_startRound 19 = .ok (.iinc 2 1, 3) := by decide +kernel
theorem dX6_startRound_22 : decode cX6_startRound 22 = .ok (.goto (-20), 3) := by decide +kernel
theorem dX6_startRound_25 : decode cX6_startRound 25 = .ok (.aload_n 0, 1) := by decide +kernel
theorem dX6_startRound_26 : decode cX6_startRound 26 = .ok (.getfield 24, 3) := by decide +kernel
theorem dX6_startRound_29 : decode cX6_startRound 29 = .ok (.iconst 0, 1) := by decide +kernel
theorem dX6_startRound_30 : decode cX6_startRound 30 = .ok (.invokestatic 54, 3) := by decide +kernel
theorem dX6_startRound_33 : decode cX6_startRound 33 = .ok (.aload_n 0, 1) := by decide +kernel
theorem dX6_startRound_34 : decode cX6_startRound 34 = .ok (.getfield 27, 3) := by decide +kernel
theorem dX6_startRound_37 : decode cX6_startRound 37 = .ok (.iconst 0, 1) := by decide +kernel
theorem dX6_startRound_38 : decode cX6_startRound 38 = .ok (.invokestatic 54, 3) := by decide +kernel
theorem dX6_startRound_41 : decode cX6_startRound 41 = .ok (.aload_n 0, 1) := by decide +kernel
theorem dX6_startRound_42 : decode cX6_startRound 42 = .ok (.getfield 30, 3) := by decide +kernel
theorem dX6_startRound_45 : decode cX6_startRound 45 = .ok (.iconst 0, 1) := by decide +kernel
theorem dX6_startRound_46 : decode cX6_startRound 46 = .ok (.invokestatic 54, 3) := by decide +kernel
theorem dX6_startRound_49 : decode cX6_startRound 49 = .ok (.aload_n 0, 1) := by decide +kernel
theorem dX6_startRound_50 : decode cX6_startRound 50 = .ok (.getfield 39, 3) := by decide +kernel
theorem dX6_startRound_53 : decode cX6_startRound 53 = .ok (.lconst 0, 1) := by decide +kernel
theorem dX6_startRound_54 : decode cX6_startRound 54 = .ok (.invokestatic 60, 3) := by decide +kernel
theorem dX6_startRound_57 : decode cX6_startRound 57 = .ok (.aload_n 0, 1) := by decide +kernel
theorem dX6_startRound_58 : decode cX6_startRound 58 = .ok (.getfield 43, 3) := by decide +kernel
theorem dX6_startRound_61 : decode cX6_startRound 61 = .ok (.iconst 0, 1) := by decide +kernel
theorem dX6_startRound_62 : decode cX6_startRound 62 = .ok (.invokestatic 54, 3) := by decide +kernel
theorem dX6_startRound_65 : decode cX6_startRound 65 = .ok (.return_, 1) := by decide +kernel
theorem dX6_pass_0 : decode cX6_pass 0 = .ok (.iload_n 1, 1) := by decide +kernel
theorem dX6_pass_1 : decode cX6_pass 1 = .ok (.ifCond .lt 29, 3) := by decide +kernel
theorem dX6_pass_4 : decode cX6_pass 4 = .ok (.iload_n 1, 1) := by decide +kernel
theorem dX6_pass_5 : decode cX6_pass 5 = .ok (.iconst 4, 1) := by decide +kernel
theorem dX6_pass_6 : decode cX6_pass 6 = .ok (.if_icmp .ge 24, 3) := by decide +kernel
theorem dX6_pass_9 : decode cX6_pass 9 = .ok (.aload_n 0, 1) := by decide +kernel
theorem dX6_pass_10 : decode cX6_pass 10 = .ok (.getfield 39, 3) := by decide +kernel
theorem dX6_pass_13 : decode cX6_pass 13 = .ok (.iload_n 1, 1) := by decide +kernel
theorem dX6_pass_14 : decode cX6_pass 14 = .ok (.lload_n 2, 1) := by decide +kernel
theorem dX6_pass_15 : decode cX6_pass 15 = .ok (.lastore, 1) := by decide +kernel
theorem dX6_pass_16 : decode cX6_pass 16 = .ok (.aload_n 0, 1) := by decide +kernel
theorem dX6_pass_17 : decode cX6_pass 17 = .ok (.getfield 27, 3) := by decide +kernel
theorem dX6_pass_20 : decode cX6_pass 20 = .ok (.iload_n 1, 1) := by decide +kernel
theorem dX6_pass_21 : decode cX6_pass 21 = .ok (.iconst 0, 1) := by decide +kernel
theorem dX6_pass_22 : decode cX6_pass 22 = .ok (.iastore, 1) := by decide +kernel
theorem dX6_pass_23 : decode cX6_pass 23 = .ok (.aload_n 0, 1) := by decide +kernel
theorem dX6_pass_24 : decode cX6_pass 24 = .ok (.getfield 30, 3) := by decide +kernel
theorem dX6_pass_27 : decode cX6_pass 27 = .ok (.iload_n 1, 1) := by decide +kernel
theorem dX6_pass_28 : decode cX6_pass 28 = .ok (.iconst 1, 1) := by decide +kernel
theorem dX6_pass_29 : decode cX6_pass 29 = .ok (.iastore, 1) := by decide +kernel
theorem dX6_pass_30 : decode cX6_pass 30 = .ok (.return_, 1) := by decide +kernel
theorem dX6_freshen_0 : decode cX6_freshen 0 = .ok (.aload_n 0, 1) := by decide +kernel
theorem dX6_freshen_1 : decode cX6_freshen 1 = .ok (.getfield 30, 3) := by decide +kernel
theorem dX6_freshen_4 : decode cX6_freshen 4 = .ok (.iload_n 1, 1) := by decide +kernel
theorem dX6_freshen_5 : decode cX6_freshen 5 = .ok (.invokestatic 63, 3) := by decide +kernel
theorem dX6_freshen_8 : decode cX6_freshen 8 = .ok (.iconst 1, 1) := by decide +kernel
theorem dX6_freshen_9 : decode cX6_freshen 9 = .ok (.if_icmp .ne 21, 3) := by decide +kernel
theorem dX6_freshen_12 : decode cX6_freshen 12 = .ok (.aload_n 0, 1) := by decide +kernel
theorem dX6_freshen_13 : decode cX6_freshen 13 = .ok (.getfield 27, 3) := by decide +kernel
theorem dX6_freshen_16 : decode cX6_freshen 16 = .ok (.iload_n 1, 1) := by decide +kernel
theorem dX6_freshen_17 : decode cX6_freshen 17 = .ok (.aload_n 0, 1) := by decide +kernel
theorem dX6_freshen_18 : decode cX6_freshen 18 = .ok (.getfield 27, 3) := by decide +kernel
theorem dX6_freshen_21 : decode cX6_freshen 21 = .ok (.iload_n 1, 1) := by decide +kernel
theorem dX6_freshen_22 : decode cX6_freshen 22 = .ok (.invokestatic 63, 3) := by decide +kernel
theorem dX6_freshen_25 : decode cX6_freshen 25 = .ok (.iload_n 2, 1) := by decide +kernel
theorem dX6_freshen_26 : decode cX6_freshen 26 = .ok (.iadd, 1) := by decide +kernel
theorem dX6_freshen_27 : decode cX6_freshen 27 = .ok (.invokestatic 50, 3) := by decide +kernel
theorem dX6_freshen_30 : decode cX6_freshen 30 = .ok (.return_, 1) := by decide +kernel
theorem dX6_passedBy_0 : decode cX6_passedBy 0 = .ok (.iload_n 1, 1) := by decide +kernel
theorem dX6_passedBy_1 : decode cX6_passedBy 1 = .ok (.ifCond .lt 17, 3) := by decide +kernel
theorem dX6_passedBy_4 : decode cX6_passedBy 4 = .ok (.iload_n 1, 1) := by decide +kernel
theorem dX6_passedBy_5 : decode cX6_passedBy 5 = .ok (.iconst 4, 1) := by decide +kernel
theorem dX6_passedBy_6 : decode cX6_passedBy 6 = .ok (.if_icmp .ge 12, 3) := by decide +kernel
theorem dX6_passedBy_9 : decode cX6_passedBy 9 = .ok (.aload_n 0, 1) := by decide +kernel
theorem dX6_passedBy_10 : decode cX6_passedBy 10 = .ok (.getfield 39, 3) := by decide +kernel
theorem dX6_passedBy_13 : decode cX6_passedBy 13 = .ok (.iload_n 1, 1) := by decide +kernel
theorem dX6_passedBy_14 : decode cX6_passedBy 14 = .ok (.laload, 1) := by decide +kernel
theorem dX6_passedBy_15 : decode cX6_passedBy 15 = .ok (.goto 4, 3) := by decide +kernel
theorem dX6_passedBy_18 : decode cX6_passedBy 18 = .ok (.lconst 0, 1) := by decide +kernel
theorem dX6_passedBy_19 : decode cX6_passedBy 19 = .ok (.lreturn, 1) := by decide +kernel
theorem dX6_claimed_0 : decode cX6_claimed 0 = .ok (.iconst 0, 1) := by decide +kernel
theorem dX6_claimed_1 : decode cX6_claimed 1 = .ok (.istore_n 2, 1) := by decide +kernel
theorem dX6_claimed_2 : decode cX6_claimed 2 = .ok (.iconst 0, 1) := by decide +kernel
theorem dX6_claimed_3 : decode cX6_claimed 3 = .ok (.istore_n 3, 1) := by decide +kernel
theorem dX6_claimed_4 : decode cX6_claimed 4 = .ok (.iload_n 3, 1) := by decide +kernel
theorem dX6_claimed_5 : decode cX6_claimed 5 = .ok (.aload_n 0, 1) := by decide +kernel
theorem dX6_claimed_6 : decode cX6_claimed 6 = .ok (.getfield 46, 3) := by decide +kernel
theorem dX6_claimed_9 : decode cX6_claimed 9 = .ok (.if_icmp .ge 25, 3) := by decide +kernel
theorem dX6_claimed_12 : decode cX6_claimed 12 = .ok (.iload_n 2, 1) := by decide +kernel
theorem dX6_claimed_13 : decode cX6_claimed 13 = .ok (.aload_n 0, 1) := by decide +kernel
theorem dX6_claimed_14 : decode cX6_claimed 14 = .ok (.getfield 43, 3) := by decide +kernel
theorem dX6_claimed_17 : decode cX6_claimed 17 = .ok (.iload_n 3, 1) := by decide +kernel
theorem dX6_claimed_18 : decode cX6_claimed 18 = .ok (.bipush 52, 2) := by decide +kernel
theorem dX6_claimed_20 : decode cX6_claimed 20 = .ok (.imul, 1) := by decide +kernel
theorem dX6_claimed_21 : decode cX6_claimed 21 = .ok (.iload_n 1, 1) := by decide +kernel
theorem dX6_claimed_22 : decode cX6_claimed 22 = .ok (.iadd, 1) := by decide +kernel
theorem dX6_claimed_23 : decode cX6_claimed 23 = .ok (.invokestatic 63, 3) := by decide +kernel
theorem dX6_claimed_26 : decode cX6_claimed 26 = .ok (.iadd, 1) := by decide +kernel
theorem dX6_claimed_27 : decode cX6_claimed 27 = .ok (.istore_n 2, 1) := by decide +kernel
theorem dX6_claimed_28 : decode cX6_claimed 28 = .ok (.iinc 3 1, 3) := by decide +kernel
theorem dX6_claimed_31 : decode cX6_claimed 31 = .ok (.goto (-27), 3) := by decide +kernel
theorem dX6_claimed_34 : decode cX6_claimed 34 = .ok (.iload_n 2, 1) := by decide +kernel
theorem dX6_claimed_35 : decode cX6_claimed 35 = .ok (.ireturn, 1) := by decide +kernel
theorem dX6_placeOf_0 : decode cX6_placeOf 0 = .ok (.iconst 0, 1) := by decide +kernel
theorem dX6_placeOf_1 : decode cX6_placeOf 1 = .ok (.istore_n 2, 1) := by decide +kernel
theorem dX6_placeOf_2 : decode cX6_placeOf 2 = .ok (.iload_n 2, 1) := by decide +kernel
theorem dX6_placeOf_3 : decode cX6_placeOf 3 = .ok (.aload_n 0, 1) := by decide +kernel
theorem dX6_placeOf_4 : decode cX6_placeOf 4 = .ok (.getfield 46, 3) := by decide +kernel
theorem dX6_placeOf_7 : decode cX6_placeOf 7 = .ok (.if_icmp .ge 23, 3) := by decide +kernel
theorem dX6_placeOf_10 : decode cX6_placeOf 10 = .ok (.aload_n 0, 1) := by decide +kernel
theorem dX6_placeOf_11 : decode cX6_placeOf 11 = .ok (.getfield 36, 3) := by decide +kernel
theorem dX6_placeOf_14 : decode cX6_placeOf 14 = .ok (.iload_n 2, 1) := by decide +kernel
theorem dX6_placeOf_15 : decode cX6_placeOf 15 = .ok (.invokestatic 63, 3) := by decide +kernel
theorem dX6_placeOf_18 : decode cX6_placeOf 18 = .ok (.iload_n 1, 1) := by decide +kernel
theorem dX6_placeOf_19 : decode cX6_placeOf 19 = .ok (.if_icmp .ne 5, 3) := by decide +kernel
theorem dX6_placeOf_22 : decode cX6_placeOf 22 = .ok (.iload_n 2, 1) := by decide +kernel
theorem dX6_placeOf_23 : decode cX6_placeOf 23 = .ok (.ireturn, 1) := by decide +kernel
theorem dX6_placeOf_24 : decode cX6_placeOf 24 = .ok (.iinc 2 1, 3) := by decide +kernel
theorem dX6_placeOf_27 : decode cX6_placeOf 27 = .ok (.goto (-25), 3) := by decide +kernel
theorem dX6_placeOf_30 : decode cX6_placeOf 30 = .ok (.iconst (-1), 1) := by decide +kernel
theorem dX6_placeOf_31 : decode cX6_placeOf 31 = .ok (.ireturn, 1) := by decide +kernel
theorem dX6_climb_0 : decode cX6_climb 0 = .ok (.aload_n 0, 1) := by decide +kernel
theorem dX6_climb_1 : decode cX6_climb 1 = .ok (.iload_n 1, 1) := by decide +kernel
theorem dX6_climb_2 : decode cX6_climb 2 = .ok (.invokevirtual 67, 3) := by decide +kernel
theorem dX6_climb_5 : decode cX6_climb 5 = .ok (.istore_n 2, 1) := by decide +kernel
theorem dX6_climb_6 : decode cX6_climb 6 = .ok (.iload_n 2, 1) := by decide +kernel
theorem dX6_climb_7 : decode cX6_climb 7 = .ok (.ifCond .le 32, 3) := by decide +kernel
theorem dX6_climb_10 : decode cX6_climb 10 = .ok (.aload_n 0, 1) := by decide +kernel
theorem dX6_climb_11 : decode cX6_climb 11 = .ok (.getfield 36, 3) := by decide +kernel
theorem dX6_climb_14 : decode cX6_climb 14 = .ok (.iload_n 2, 1) := by decide +kernel
theorem dX6_climb_15 : decode cX6_climb 15 = .ok (.aload_n 0, 1) := by decide +kernel
theorem dX6_climb_16 : decode cX6_climb 16 = .ok (.getfield 36, 3) := by decide +kernel
theorem dX6_climb_19 : decode cX6_climb 19 = .ok (.iload_n 2, 1) := by decide +kernel
theorem dX6_climb_20 : decode cX6_climb 20 = .ok (.iconst 1, 1) := by decide +kernel
theorem dX6_climb_21 : decode cX6_climb 21 = .ok (.isub, 1) := by decide +kernel
theorem dX6_climb_22 : decode cX6_climb 22 = .ok (.invokestatic 63, 3) := by decide +kernel
theorem dX6_climb_25 : decode cX6_climb 25 = .ok (.invokestatic 50, 3) := by decide +kernel
theorem dX6_climb_28 : decode cX6_climb 28 = .ok (.aload_n 0, 1) := by decide +kernel
theorem dX6_climb_29 : decode cX6_climb 29 = .ok (.getfield 36, 3) := by decide +kernel
theorem dX6_climb_32 : decode cX6_climb 32 = .ok (.iload_n 2, 1) := by decide +kernel
theorem dX6_climb_33 : decode cX6_climb 33 = .ok (.iconst 1, 1) := by decide +kernel
theorem dX6_climb_34 : decode cX6_climb 34 = .ok (.isub, 1) := by decide +kernel
theorem dX6_climb_35 : decode cX6_climb 35 = .ok (.iload_n 1, 1) := by decide +kernel
theorem dX6_climb_36 : decode cX6_climb 36 = .ok (.invokestatic 50, 3) := by decide +kernel
theorem dX6_climb_39 : decode cX6_climb 39 = .ok (.return_, 1) := by decide +kernel
theorem dX6_pointsOf_0 : decode cX6_pointsOf 0 = .ok (.iconst 0, 1) := by decide +kernel
theorem dX6_pointsOf_1 : decode cX6_pointsOf 1 = .ok (.istore_n 2, 1) := by decide +kernel
theorem dX6_pointsOf_2 : decode cX6_pointsOf 2 = .ok (.iconst 0, 1) := by decide +kernel
theorem dX6_pointsOf_3 : decode cX6_pointsOf 3 = .ok (.istore_n 3, 1) := by decide +kernel
theorem dX6_pointsOf_4 : decode cX6_pointsOf 4 = .ok (.iload_n 3, 1) := by decide +kernel
theorem dX6_pointsOf_5 : decode cX6_pointsOf 5 = .ok (.aload_n 0, 1) := by decide +kernel
theorem dX6_pointsOf_6 : decode cX6_pointsOf 6 = .ok (.getfield 46, 3) := by decide +kernel
theorem dX6_pointsOf_9 : decode cX6_pointsOf 9 = .ok (.if_icmp .ge 32, 3) := by decide +kernel
theorem dX6_pointsOf_12 : decode cX6_pointsOf 12 = .ok (.aload_n 0, 1) := by decide +kernel
theorem dX6_pointsOf_13 : decode cX6_pointsOf 13 = .ok (.getfield 9, 3) := by decide +kernel
theorem dX6_pointsOf_16 : decode cX6_pointsOf 16 = .ok (.iload_n 3, 1) := by decide +kernel
theorem dX6_pointsOf_17 : decode cX6_pointsOf 17 = .ok (.invokestatic 63, 3) := by decide +kernel
theorem dX6_pointsOf_20 : decode cX6_pointsOf 20 = .ok (.iload_n 1, 1) := by decide +kernel
theorem dX6_pointsOf_21 : decode cX6_pointsOf 21 = .ok (.if_icmp .ne 14, 3) := by decide +kernel
theorem dX6_pointsOf_24 : decode cX6_pointsOf 24 = .ok (.iload_n 2, 1) := by decide +kernel
theorem dX6_pointsOf_25 : decode cX6_pointsOf 25 = .ok (.aload_n 0, 1) := by decide +kernel
theorem dX6_pointsOf_26 : decode cX6_pointsOf 26 = .ok (.getfield 18, 3) := by decide +kernel
theorem dX6_pointsOf_29 : decode cX6_pointsOf 29 = .ok (.iload_n 3, 1) := by decide +kernel
theorem dX6_pointsOf_30 : decode cX6_pointsOf 30 = .ok (.invokestatic 63, 3) := by decide +kernel
theorem dX6_pointsOf_33 : decode cX6_pointsOf 33 = .ok (.iadd, 1) := by decide +kernel
theorem dX6_pointsOf_34 : decode cX6_pointsOf 34 = .ok (.istore_n 2, 1) := by decide +kernel
theorem dX6_pointsOf_35 : decode cX6_pointsOf 35 = .ok (.iinc 3 1, 3) := by decide +kernel
theorem dX6_pointsOf_38 : decode cX6_pointsOf 38 = .ok (.goto (-34), 3) := by decide +kernel
theorem dX6_pointsOf_41 : decode cX6_pointsOf 41 = .ok (.iload_n 2, 1) := by decide +kernel
theorem dX6_pointsOf_42 : decode cX6_pointsOf 42 = .ok (.ireturn, 1) := by decide +kernel
theorem dX7_init_0 : decode cX7_init 0 = .ok (.aload_n 0, 1) := by decide +kernel
theorem dX7_init_1 : decode cX7_init 1 = .ok (.invokespecial 3, 3) := by decide +kernel
theorem dX7_init_4 : decode cX7_init 4 = .ok (.aload_n 0, 1) := by decide +kernel
theorem dX7_init_5 : decode cX7_init 5 = .ok (.bipush 40, 2) := by decide +kernel
theorem dX7_init_7 : decode cX7_init 7 = .ok (.newarray .int, 2) := by decide +kernel
theorem dX7_init_9 : decode cX7_init 9 = .ok (.putfield 11, 3) := by decide +kernel
theorem dX7_init_12 : decode cX7_init 12 = .ok (.aload_n 0, 1) := by decide +kernel
theorem dX7_init_13 : decode cX7_init 13 = .ok (.bipush 40, 2) := by decide +kernel
theorem dX7_init_15 : decode cX7_init 15 = .ok (.newarray .int, 2) := by decide +kernel
theorem dX7_init_17 : decode cX7_init 17 = .ok (.putfield 15, 3) := by decide +kernel
theorem dX7_init_20 : decode cX7_init 20 = .ok (.aload_n 0, 1) := by decide +kernel
theorem dX7_init_21 : decode cX7_init 21 = .ok (.bipush 40, 2) := by decide +kernel
theorem dX7_init_23 : decode cX7_init 23 = .ok (.newarray .int, 2) := by decide +kernel
theorem dX7_init_25 : decode cX7_init 25 = .ok (.putfield 18, 3) := by decide +kernel
theorem dX7_init_28 : decode cX7_init 28 = .ok (.return_, 1) := by decide +kernel
theorem dX7_write_0 : decode cX7_write 0 = .ok (.aload_n 0, 1) := by decide +kernel
theorem dX7_write_1 : decode cX7_write 1 = .ok (.getfield 21, 3) := by decide +kernel
theorem dX7_write_4 : decode cX7_write 4 = .ok (.bipush 40, 2) := by decide +kernel
theorem dX7_write_6 : decode cX7_write 6 = .ok (.if_icmp .lt 5, 3) := by decide +kernel
theorem dX7_write_9 : decode cX7_write 9 = .ok (.iconst 0, 1) := by decide +kernel
theorem dX7_write_10 : decode cX7_write 10 = .ok (.ireturn, 1) := by decide +kernel
theorem dX7_write_11 : decode cX7_write 11 = .ok (.aload_n 0, 1) := by decide +kernel
theorem dX7_write_12 : decode cX7_write 12 = .ok (.getfield 11, 3) := by decide +kernel
theorem dX7_write_15 : decode cX7_write 15 = .ok (.aload_n 0, 1) := by decide +kernel
theorem dX7_write_16 : decode cX7_write 16 = .ok (.getfield 21, 3) := by decide +kernel
theorem dX7_write_19 : decode cX7_write 19 = .ok (.iload_n 1, 1) := by decide +kernel
theorem dX7_write_20 : decode cX7_write 20 = .ok (.iastore, 1) := by decide +kernel
theorem dX7_write_21 : decode cX7_write 21 = .ok (.aload_n 0, 1) := by decide +kernel
theorem dX7_write_22 : decode cX7_write 22 = .ok (.dup, 1) := by decide +kernel
theorem dX7_write_23 : decode cX7_write 23 = .ok (.getfield 21, 3) := by decide +kernel
theorem dX7_write_26 : decode cX7_write 26 = .ok (.iconst 1, 1) := by decide +kernel
theorem dX7_write_27 : decode cX7_write 27 = .ok (.iadd, 1) := by decide +kernel
theorem dX7_write_28 : decode cX7_write 28 = .ok (.putfield 21, 3) := by decide +kernel
theorem dX7_write_31 : decode cX7_write 31 = .ok (.iconst 1, 1) := by decide +kernel
theorem dX7_write_32 : decode cX7_write 32 = .ok (.ireturn, 1) := by decide +kernel
theorem dX7_read_0 : decode cX7_read 0 = .ok (.aload_n 0, 1) := by decide +kernel
theorem dX7_read_1 : decode cX7_read 1 = .ok (.iconst 0, 1) := by decide +kernel
theorem dX7_read_2 : decode cX7_read 2 = .ok (.putfield 25, 3) := by decide +kernel
theorem dX7_read_5 : decode cX7_read 5 = .ok (.iconst 0, 1) := by decide +kernel
theorem dX7_read_6 : decode cX7_read 6 = .ok (.istore_n 2, 1) := by decide +kernel
theorem dX7_read_7 : decode cX7_read 7 = .ok (.iload_n 2, 1) := by decide +kernel
theorem dX7_read_8 : decode cX7_read 8 = .ok (.aload_n 0, 1) := by decide +kernel
theorem dX7_read_9 : decode cX7_read 9 = .ok (.getfield 21, 3) := by decide +kernel
theorem dX7_read_12 : decode cX7_read 12 = .ok (.if_icmp .ge 134, 3) := by decide +kernel
theorem dX7_read_15 : decode cX7_read 15 = .ok (.aload_n 0, 1) := by decide +kernel
theorem dX7_read_16 : decode cX7_read 16 = .ok (.getfield 11, 3) := by decide +kernel
theorem dX7_read_19 : decode cX7_read 19 = .ok (.iload_n 2, 1) := by decide +kernel
theorem dX7_read_20 : decode cX7_read 20 = .ok (.invokestatic 28, 3) := by decide +kernel
theorem dX7_read_23 : decode cX7_read 23 = .ok (.invokestatic 32, 3) := by decide +kernel
theorem dX7_read_26 : decode cX7_read 26 = .ok (.istore_n 3, 1) := by decide +kernel
theorem dX7_read_27 : decode cX7_read 27 = .ok (.iload_n 3, 1) := by decide +kernel
theorem dX7_read_28 : decode cX7_read 28 = .ok (.iconst 3, 1) := by decide +kernel
theorem dX7_read_29 : decode cX7_read 29 = .ok (.if_icmp .le 7, 3) := by decide +kernel
theorem dX7_read_32 : decode cX7_read 32 = .ok (.iconst 1, 1) := by decide +kernel
theorem dX7_read_33 : decode cX7_read 33 = .ok (.goto 12, 3) := by decide +kernel
theorem dX7_read_36 : decode cX7_read 36 = .ok (.iconst 2, 1) := by decide +kernel
theorem dX7_read_37 : decode cX7_read 37 = .ok (.aload_n 0, 1) := by decide +kernel
theorem dX7_read_38 : decode cX7_read 38 = .ok (.iload_n 2, 1) := by decide +kernel
theorem dX7_read_39 : decode cX7_read 39 = .ok (.iconst 2, 1) := by decide +kernel
theorem dX7_read_40 : decode cX7_read 40 = .ok (.iadd, 1) := by decide +kernel
theorem dX7_read_41 : decode cX7_read 41 = .ok (.invokevirtual 36, 3) := by decide +kernel
theorem dX7_read_44 : decode cX7_read 44 = .ok (.iadd, 1) := by decide +kernel
theorem dX7_read_45 : decode cX7_read 45 = .ok (.istore 4, 2) := by decide +kernel
theorem dX7_read_47 : decode cX7_read 47 = .ok (.iload_n 3, 1) := by decide +kernel
theorem dX7_read_48 : decode cX7_read 48 = .ok (.iconst (-1), 1) := by decide +kernel
theorem dX7_read_49 : decode cX7_read 49 = .ok (.if_icmp .eq 14, 3) := by decide +kernel
theorem dX7_read_52 : decode cX7_read 52 = .ok (.iload_n 2, 1) := by decide +kernel
theorem dX7_read_53 : decode cX7_read 53 = .ok (.iload 4, 2) := by decide +kernel
theorem dX7_read_55 : decode cX7_read 55 = .ok (.iadd, 1) := by decide +kernel
theorem dX7_read_56 : decode cX7_read 56 = .ok (.aload_n 0, 1) := by decide +kernel
theorem dX7_read_57 : decode cX7_read 57 = .ok (.getfield 21, 3) := by decide +kernel
theorem dX7_read_60 : decode cX7_read 60 = .ok (.if_icmp .le 5, 3) := by decide +kernel
theorem dX7_read_63 : decode cX7_read 63 = .ok (.iconst 0, 1) := by decide +kernel
theorem dX7_read_64 : decode cX7_read 64 = .ok (.ireturn, 1) := by decide +kernel
theorem dX7_read_65 : decode cX7_read 65 = .ok (.iload_n 3, 1) := by decide +kernel
theorem dX7_read_66 : decode cX7_read 66 = .ok (.iconst 3, 1) := by decide +kernel
theorem dX7_read_67 : decode cX7_read 67 = .ok (.if_icmp .le 7, 3) := by decide +kernel
theorem dX7_read_70 : decode cX7_read 70 = .ok (.iconst (-1), 1) := by decide +kernel
theorem dX7_read_71 : decode cX7_read 71 = .ok (.goto 14, 3) := by decide +kernel
theorem dX7_read_74 : decode cX7_read 74 = .ok (.aload_n 0, 1) := by decide +kernel
theorem dX7_read_75 : decode cX7_read 75 = .ok (.iload_n 2, 1) := by decide +kernel
theorem dX7_read_76 : decode cX7_read 76 = .ok (.iconst 1, 1) := by decide +kernel
theorem dX7_read_77 : decode cX7_read 77 = .ok (.iadd, 1) := by decide +kernel
theorem dX7_read_78 : decode cX7_read 78 = .ok (.iload 4, 2) := by decide +kernel
theorem dX7_read_80 : decode cX7_read 80 = .ok (.iconst 2, 1) := by decide +kernel
theorem dX7_read_81 : decode cX7_read 81 = .ok (.isub, 1) := by decide +kernel
theorem dX7_read_82 : decode cX7_read 82 = .ok (.invokevirtual 39, 3) := by decide +kernel
theorem dX7_read_85 : decode cX7_read 85 = .ok (.istore 5, 2) := by decide +kernel
theorem dX7_read_87 : decode cX7_read 87 = .ok (.iload_n 3, 1) := by decide +kernel
theorem dX7_read_88 : decode cX7_read 88 = .ok (.iconst 3, 1) := by decide +kernel
theorem dX7_read_89 : decode cX7_read 89 = .ok (.if_icmp .gt 14, 3) := by decide +kernel
theorem dX7_read_92 : decode cX7_read 92 = .ok (.aload_n 1, 1) := by decide +kernel
theorem dX7_read_93 : decode cX7_read 93 = .ok (.iload 5, 2) := by decide +kernel
theorem dX7_read_95 : decode cX7_read 95 = .ok (.invokevirtual 43, 3) := by decide +kernel
theorem dX7_read_98 : decode cX7_read 98 = .ok (.ifCond .ne 5, 3) := by decide +kernel
theorem dX7_read_101 : decode cX7_read 101 = .ok (.iconst 0, 1) := by decide +kernel
theorem dX7_read_102 : decode cX7_read 102 = .ok (.ireturn, 1) := by decide +kernel
theorem dX7_read_103 : decode cX7_read 103 = .ok (.aload_n 0, 1) := by decide +kernel
theorem dX7_read_104 : decode cX7_read 104 = .ok (.getfield 15, 3) := by decide +kernel
theorem dX7_read_107 : decode cX7_read 107 = .ok (.aload_n 0, 1) := by decide +kernel
theorem dX7_read_108 : decode cX7_read 108 = .ok (.getfield 25, 3) := by decide +kernel
theorem dX7_read_111 : decode cX7_read 111 = .ok (.iload_n 3, 1) := by decide +kernel
theorem dX7_read_112 : decode cX7_read 112 = .ok (.invokestatic 49, 3) := by decide +kernel
theorem dX7_read_115 : decode cX7_read 115 = .ok (.aload_n 0, 1) := by decide +kernel
theorem dX7_read_116 : decode cX7_read 116 = .ok (.getfield 18, 3) := by decide +kernel
theorem dX7_read_119 : decode cX7_read 119 = .ok (.aload_n 0, 1) := by decide +kernel
theorem dX7_read_120 : decode cX7_read 120 = .ok (.getfield 25, 3) := by decide +kernel
theorem dX7_read_123 : decode cX7_read 123 = .ok (.iload 5, 2) := by decide +kernel
theorem dX7_read_125 : decode cX7_read 125 = .ok (.invokestatic 49, 3) := by decide +kernel
theorem dX7_read_128 : decode cX7_read 128 = .ok (.aload_n 0, 1) := by decide +kernel
theorem dX7_read_129 : decode cX7_read 129 = .ok (.dup, 1) := by decide +kernel
theorem dX7_read_130 : decode cX7_read 130 = .ok (.getfield 25, 3) := by decide +kernel
theorem dX7_read_133 : decode cX7_read 133 = .ok (.iconst 1, 1) := by decide +kernel
theorem dX7_read_134 : decode cX7_read 134 = .ok (.iadd, 1) := by decide +kernel
theorem dX7_read_135 : decode cX7_read 135 = .ok (.putfield 25, 3) := by decide +kernel
theorem dX7_read_138 : decode cX7_read 138 = .ok (.iload_n 2, 1) := by decide +kernel
theorem dX7_read_139 : decode cX7_read 139 = .ok (.iload 4, 2) := by decide +kernel
theorem dX7_read_141 : decode cX7_read 141 = .ok (.iadd, 1) := by decide +kernel
theorem dX7_read_142 : decode cX7_read 142 = .ok (.istore_n 2, 1) := by decide +kernel
theorem dX7_read_143 : decode cX7_read 143 = .ok (.goto (-136), 3) := by decide +kernel
theorem dX7_read_146 : decode cX7_read 146 = .ok (.aload_n 0, 1) := by decide +kernel
theorem dX7_read_147 : decode cX7_read 147 = .ok (.getfield 25, 3) := by decide +kernel
theorem dX7_read_150 : decode cX7_read 150 = .ok (.ifCond .le 7, 3) := by decide +kernel
theorem dX7_read_153 : decode cX7_read 153 = .ok (.iconst 1, 1) := by decide +kernel
theorem dX7_read_154 : decode cX7_read 154 = .ok (.goto 4, 3) := by decide +kernel
theorem dX7_read_157 : decode cX7_read 157 = .ok (.iconst 0, 1) := by decide +kernel
theorem dX7_read_158 : decode cX7_read 158 = .ok (.ireturn, 1) := by decide +kernel
theorem dX7_sortOf_0 : decode cX7_sortOf 0 = .ok (.iload_n 0, 1) := by decide +kernel
theorem dX7_sortOf_1 : decode cX7_sortOf 1 = .ok (.tableswitch 104 101 119 #[99, 104, 104, 104, 104, 93, 104, 91, 104, 104, 104, 104, 104, 104, 95, 97, 104, 104, 101], 91) := by decide +kernel
theorem dX7_sortOf_92 : decode cX7_sortOf 92 = .ok (.iconst 1, 1) := by decide +kernel
theorem dX7_sortOf_93 : decode cX7_sortOf 93 = .ok (.ireturn, 1) := by decide +kernel
theorem dX7_sortOf_94 : decode cX7_sortOf 94 = .ok (.iconst 2, 1) := by decide +kernel
theorem dX7_sortOf_95 : decode cX7_sortOf 95 = .ok (.ireturn, 1) := by decide +kernel
theorem dX7_sortOf_96 : decode cX7_sortOf 96 = .ok (.iconst 3, 1) := by decide +kernel
theorem dX7_sortOf_97 : decode cX7_sortOf 97 = .ok (.ireturn, 1) := by decide +kernel
theorem dX7_sortOf_98 : decode cX7_sortOf 98 = .ok (.iconst 4, 1) := by decide +kernel
theorem dX7_sortOf_99 : decode cX7_sortOf 99 = .ok (.ireturn, 1) := by decide +kernel
theorem dX7_sortOf_100 : decode cX7_sortOf 100 = .ok (.iconst 5, 1) := by decide +kernel
theorem dX7_sortOf_101 : decode cX7_sortOf 101 = .ok (.ireturn, 1) := by decide +kernel
theorem dX7_sortOf_102 : decode cX7_sortOf 102 = .ok (.bipush 6, 2) := by decide +kernel
theorem dX7_sortOf_104 : decode cX7_sortOf 104 = .ok (.ireturn, 1) := by decide +kernel
theorem dX7_sortOf_105 : decode cX7_sortOf 105 = .ok (.iconst (-1), 1) := by decide +kernel
theorem dX7_sortOf_106 : decode cX7_sortOf 106 = .ok (.ireturn, 1) := by decide +kernel
theorem dX7_isDigit_0 : decode cX7_isDigit 0 = .ok (.iload_n 1, 1) := by decide +kernel
theorem dX7_isDigit_1 : decode cX7_isDigit 1 = .ok (.aload_n 0, 1) := by decide +kernel
theorem dX7_isDigit_2 : decode cX7_isDigit 2 = .ok (.getfield 21, 3) := by decide +kernel
theorem dX7_isDigit_5 : decode cX7_isDigit 5 = .ok (.if_icmp .ge 25, 3) := by decide +kernel
theorem dX7_isDigit_8 : decode cX7_isDigit 8 = .ok (.aload_n 0, 1) := by decide +kernel
theorem dX7_isDigit_9 : decode cX7_isDigit 9 = .ok (.getfield 11, 3) := by decide +kernel
theorem dX7_isDigit_12 : decode cX7_isDigit 12 = .ok (.iload_n 1, 1) := by decide +kernel
theorem dX7_isDigit_13 : decode cX7_isDigit 13 = .ok (.invokestatic 28, 3) := by decide +kernel
theorem dX7_isDigit_16 : decode cX7_isDigit 16 = .ok (.bipush 48, 2) := by decide +kernel
theorem dX7_isDigit_18 : decode cX7_isDigit 18 = .ok (.bipush 57, 2) := by decide +kernel
theorem dX7_isDigit_20 : decode cX7_isDigit 20 = .ok (.invokestatic 53, 3) := by decide +kernel
theorem dX7_isDigit_23 : decode cX7_isDigit 23 = .ok (.ifCond .eq 7, 3) := by decide +kernel
theorem dX7_isDigit_26 : decode cX7_isDigit 26 = .ok (.iconst 1, 1) := by decide +kernel
theorem dX7_isDigit_27 : decode cX7_isDigit 27 = .ok (.goto 4, 3) := by decide +kernel
theorem dX7_isDigit_30 : decode cX7_isDigit 30 = .ok (.iconst 0, 1) := by decide +kernel
theorem dX7_isDigit_31 : decode cX7_isDigit 31 = .ok (.ireturn, 1) := by decide +kernel
theorem dX7_digits_0 : decode cX7_digits 0 = .ok (.aload_n 0, 1) := by decide +kernel
theorem dX7_digits_1 : decode cX7_digits 1 = .ok (.iload_n 1, 1) := by decide +kernel
theorem dX7_digits_2 : decode cX7_digits 2 = .ok (.invokevirtual 57, 3) := by decide +kernel
theorem dX7_digits_5 : decode cX7_digits 5 = .ok (.ifCond .eq 17, 3) := by decide +kernel
theorem dX7_digits_8 : decode cX7_digits 8 = .ok (.aload_n 0, 1) := by decide +kernel
theorem dX7_digits_9 : decode cX7_digits 9 = .ok (.iload_n 1, 1) := by decide +kernel
theorem dX7_digits_10 : decode cX7_digits 10 = .ok (.iconst 1, 1) := by decide +kernel
theorem dX7_digits_11 : decode cX7_digits 11 = .ok (.iadd, 1) := by decide +kernel
theorem dX7_digits_12 : decode cX7_digits 12 = .ok (.invokevirtual 57, 3) := by decide +kernel
theorem dX7_digits_15 : decode cX7_digits 15 = .ok (.ifCond .eq 7, 3) := by decide +kernel
theorem dX7_digits_18 : decode cX7_digits 18 = .ok (.iconst 2, 1) := by decide +kernel
theorem dX7_digits_19 : decode cX7_digits 19 = .ok (.goto 4, 3) := by decide +kernel
theorem dX7_digits_22 : decode cX7_digits 22 = .ok (.iconst 1, 1) := by decide +kernel
theorem dX7_digits_23 : decode cX7_digits 23 = .ok (.ireturn, 1) := by decide +kernel
theorem dX7_kindAt_0 : decode cX7_kindAt 0 = .ok (.aload_n 0, 1) := by decide +kernel
theorem dX7_kindAt_1 : decode cX7_kindAt 1 = .ok (.getfield 11, 3) := by decide +kernel
theorem dX7_kindAt_4 : decode cX7_kindAt 4 = .ok (.iload_n 1, 1) := by decide +kernel
theorem dX7_kindAt_5 : decode cX7_kindAt 5 = .ok (.invokestatic 28, 3) := by decide +kernel
theorem dX7_kindAt_8 : decode cX7_kindAt 8 = .ok (.bipush 97, 2) := by decide +kernel
theorem dX7_kindAt_10 : decode cX7_kindAt 10 = .ok (.isub, 1) := by decide +kernel
theorem dX7_kindAt_11 : decode cX7_kindAt 11 = .ok (.istore_n 3, 1) := by decide +kernel
theorem dX7_kindAt_12 : decode cX7_kindAt 12 = .ok (.iload_n 3, 1) := by decide +kernel
theorem dX7_kindAt_13 : decode cX7_kindAt 13 = .ok (.iconst 0, 1) := by decide +kernel
theorem dX7_kindAt_14 : decode cX7_kindAt 14 = .ok (.iconst 3, 1) := by decide +kernel
theorem dX7_kindAt_15 : decode cX7_kindAt 15 = .ok (.invokestatic 53, 3) := by decide +kernel
theorem dX7_kindAt_18 : decode cX7_kindAt 18 = .ok (.ifCond .eq 28, 3) := by decide +kernel
theorem dX7_kindAt_21 : decode cX7_kindAt 21 = .ok (.aload_n 0, 1) := by decide +kernel
theorem dX7_kindAt_22 : decode cX7_kindAt 22 = .ok (.iload_n 1, 1) := by decide +kernel
theorem dX7_kindAt_23 : decode cX7_kindAt 23 = .ok (.iconst 1, 1) := by decide +kernel
theorem dX7_kindAt_24 : decode cX7_kindAt 24 = .ok (.iadd, 1) := by decide +kernel
theorem dX7_kindAt_25 : decode cX7_kindAt 25 = .ok (.invokevirtual 57, 3) := by decide +kernel
theorem dX7_kindAt_28 : decode cX7_kindAt 28 = .ok (.ifCond .eq 18, 3) := by decide +kernel
theorem dX7_kindAt_31 : decode cX7_kindAt 31 = .ok (.aload_n 0, 1) := by decide +kernel
theorem dX7_kindAt_32 : decode cX7_kindAt 32 = .ok (.getfield 11, 3) := by decide +kernel
theorem dX7_kindAt_35 : decode cX7_kindAt 35 = .ok (.iload_n 1, 1) := by decide +kernel
theorem dX7_kindAt_36 : decode cX7_kindAt 36 = .ok (.iconst 1, 1) := by decide +kernel
theorem dX7_kindAt_37 : decode cX7_kindAt 37 = .ok (.iadd, 1) := by decide +kernel
theorem dX7_kindAt_38 : decode cX7_kindAt 38 = .ok (.invokestatic 28, 3) := by decide +kernel
theorem dX7_kindAt_41 : decode cX7_kindAt 41 = .ok (.bipush 48, 2) := by decide +kernel
theorem dX7_kindAt_43 : decode cX7_kindAt 43 = .ok (.if_icmp .ne 5, 3) := by decide +kernel
theorem dX7_kindAt_46 : decode cX7_kindAt 46 = .ok (.iconst (-1), 1) := by decide +kernel
theorem dX7_kindAt_47 : decode cX7_kindAt 47 = .ok (.ireturn, 1) := by decide +kernel
theorem dX7_kindAt_48 : decode cX7_kindAt 48 = .ok (.aload_n 0, 1) := by decide +kernel
theorem dX7_kindAt_49 : decode cX7_kindAt 49 = .ok (.getfield 11, 3) := by decide +kernel
theorem dX7_kindAt_52 : decode cX7_kindAt 52 = .ok (.iload_n 1, 1) := by decide +kernel
theorem dX7_kindAt_53 : decode cX7_kindAt 53 = .ok (.iconst 1, 1) := by decide +kernel
theorem dX7_kindAt_54 : decode cX7_kindAt 54 = .ok (.iadd, 1) := by decide +kernel
theorem dX7_kindAt_55 : decode cX7_kindAt 55 = .ok (.invokestatic 28, 3) := by decide +kernel
theorem dX7_kindAt_58 : decode cX7_kindAt 58 = .ok (.bipush 48, 2) := by decide +kernel
theorem dX7_kindAt_60 : decode cX7_kindAt 60 = .ok (.isub, 1) := by decide +kernel
theorem dX7_kindAt_61 : decode cX7_kindAt 61 = .ok (.istore 4, 2) := by decide +kernel
theorem dX7_kindAt_63 : decode cX7_kindAt 63 = .ok (.iload_n 2, 1) := by decide +kernel
theorem dX7_kindAt_64 : decode cX7_kindAt 64 = .ok (.iconst 2, 1) := by decide +kernel
theorem dX7_kindAt_65 : decode cX7_kindAt 65 = .ok (.if_icmp .ne 24, 3) := by decide +kernel
theorem dX7_kindAt_68 : decode cX7_kindAt 68 = .ok (.bipush 10, 2) := by decide +kernel
theorem dX7_kindAt_70 : decode cX7_kindAt 70 = .ok (.iload 4, 2) := by decide +kernel
theorem dX7_kindAt_72 : decode cX7_kindAt 72 = .ok (.imul, 1) := by decide +kernel
theorem dX7_kindAt_73 : decode cX7_kindAt 73 = .ok (.aload_n 0, 1) := by decide +kernel
theorem dX7_kindAt_74 : decode cX7_kindAt 74 = .ok (.getfield 11, 3) := by decide +kernel
theorem dX7_kindAt_77 : decode cX7_kindAt 77 = .ok (.iload_n 1, 1) := by decide +kernel
theorem dX7_kindAt_78 : decode cX7_kindAt 78 = .ok (.iconst 2, 1) := by decide +kernel
theorem dX7_kindAt_79 : decode cX7_kindAt 79 = .ok (.iadd, 1) := by decide +kernel
theorem dX7_kindAt_80 : decode cX7_kindAt 80 = .ok (.invokestatic 28, 3) := by decide +kernel
theorem dX7_kindAt_83 : decode cX7_kindAt 83 = .ok (.iadd, 1) := by decide +kernel
theorem dX7_kindAt_84 : decode cX7_kindAt 84 = .ok (.bipush 48, 2) := by decide +kernel
theorem dX7_kindAt_86 : decode cX7_kindAt 86 = .ok (.isub, 1) := by decide +kernel
theorem dX7_kindAt_87 : decode cX7_kindAt 87 = .ok (.istore 4, 2) := by decide +kernel
theorem dX7_kindAt_89 : decode cX7_kindAt 89 = .ok (.iload 4, 2) := by decide +kernel
theorem dX7_kindAt_91 : decode cX7_kindAt 91 = .ok (.bipush 13, 2) := by decide +kernel
theorem dX7_kindAt_93 : decode cX7_kindAt 93 = .ok (.if_icmp .gt 15, 3) := by decide +kernel
theorem dX7_kindAt_96 : decode cX7_kindAt 96 = .ok (.bipush 13, 2) := by decide +kernel
theorem dX7_kindAt_98 : decode cX7_kindAt 98 = .ok (.iload_n 3, 1) := by decide +kernel
theorem dX7_kindAt_99 : decode cX7_kindAt 99 = .ok (.imul, 1) := by decide +kernel
theorem dX7_kindAt_100 : decode cX7_kindAt 100 = .ok (.iload 4, 2) := by decide +kernel
theorem dX7_kindAt_102 : decode cX7_kindAt 102 = .ok (.iadd, 1) := by decide +kernel
theorem dX7_kindAt_103 : decode cX7_kindAt 103 = .ok (.iconst 1, 1) := by decide +kernel
theorem dX7_kindAt_104 : decode cX7_kindAt 104 = .ok (.isub, 1) := by decide +kernel
theorem dX7_kindAt_105 : decode cX7_kindAt 105 = .ok (.goto 4, 3) := by decide +kernel
theorem dX7_kindAt_108 : decode cX7_kindAt 108 = .ok (.iconst (-1), 1) := by decide +kernel
theorem dX7_kindAt_109 : decode cX7_kindAt 109 = .ok (.ireturn, 1) := by decide +kernel
theorem dX8_init_0 : decode cX8_init 0 = .ok (.aload_n 0, 1) := by decide +kernel
theorem dX8_init_1 : decode cX8_init 1 = .ok (.invokespecial 1, 3) := by decide +kernel
theorem dX8_init_4 : decode cX8_init 4 = .ok (.aload_n 0, 1) := by decide +kernel
theorem dX8_init_5 : decode cX8_init 5 = .ok (.sipush 256, 3) := by decide +kernel
theorem dX8_init_8 : decode cX8_init 8 = .ok (.newarray .int, 2) := by decide +kernel
theorem dX8_init_10 : decode cX8_init 10 = .ok (.putfield 7, 3) := by decide +kernel
theorem dX8_init_13 : decode cX8_init 13 = .ok (.aload_n 0, 1) := by decide +kernel
theorem dX8_init_14 : decode cX8_init 14 = .ok (.sipush 256, 3) := by decide +kernel
theorem dX8_init_17 : decode cX8_init 17 = .ok (.newarray .int, 2) := by decide +kernel
theorem dX8_init_19 : decode cX8_init 19 = .ok (.putfield 13, 3) := by decide +kernel
theorem dX8_init_22 : decode cX8_init 22 = .ok (.aload_n 0, 1) := by decide +kernel
theorem dX8_init_23 : decode cX8_init 23 = .ok (.sipush 256, 3) := by decide +kernel
theorem dX8_init_26 : decode cX8_init 26 = .ok (.newarray .int, 2) := by decide +kernel
theorem dX8_init_28 : decode cX8_init 28 = .ok (.putfield 16, 3) := by decide +kernel
theorem dX8_init_31 : decode cX8_init 31 = .ok (.aload_n 0, 1) := by decide +kernel
theorem dX8_init_32 : decode cX8_init 32 = .ok (.bipush 27, 2) := by decide +kernel
theorem dX8_init_34 : decode cX8_init 34 = .ok (.newarray .int, 2) := by decide +kernel
theorem dX8_init_36 : decode cX8_init 36 = .ok (.putfield 19, 3) := by decide +kernel
theorem dX8_init_39 : decode cX8_init 39 = .ok (.aload_n 0, 1) := by decide +kernel
theorem dX8_init_40 : decode cX8_init 40 = .ok (.iload_n 1, 1) := by decide +kernel
theorem dX8_init_41 : decode cX8_init 41 = .ok (.putfield 22, 3) := by decide +kernel
theorem dX8_init_44 : decode cX8_init 44 = .ok (.iconst 0, 1) := by decide +kernel
theorem dX8_init_45 : decode cX8_init 45 = .ok (.istore_n 2, 1) := by decide +kernel
theorem dX8_init_46 : decode cX8_init 46 = .ok (.iload_n 2, 1) := by decide +kernel
theorem dX8_init_47 : decode cX8_init 47 = .ok (.iload_n 1, 1) := by decide +kernel
theorem dX8_init_48 : decode cX8_init 48 = .ok (.if_icmp .gt 34, 3) := by decide +kernel
theorem dX8_init_51 : decode cX8_init 51 = .ok (.iconst 0, 1) := by decide +kernel
theorem dX8_init_52 : decode cX8_init 52 = .ok (.istore_n 3, 1) := by decide +kernel
theorem dX8_init_53 : decode cX8_init 53 = .ok (.iload_n 3, 1) := by decide +kernel
theorem dX8_init_54 : decode cX8_init 54 = .ok (.iload_n 2, 1) := by decide +kernel
theorem dX8_init_55 : decode cX8_init 55 = .ok (.if_icmp .gt 21, 3) := by decide +kernel
theorem dX8_init_58 : decode cX8_init 58 = .ok (.aload_n 0, 1) := by decide +kernel
theorem dX8_init_59 : decode cX8_init 59 = .ok (.iload_n 3, 1) := by decide +kernel
theorem dX8_init_60 : decode cX8_init 60 = .ok (.iload_n 2, 1) := by decide +kernel
theorem dX8_init_61 : decode cX8_init 61 = .ok (.invokestatic 26, 3) := by decide +kernel
theorem dX8_init_64 : decode cX8_init 64 = .ok (.iload_n 3, 1) := by decide +kernel
theorem dX8_init_65 : decode cX8_init 65 = .ok (.iload_n 2, 1) := by decide +kernel
theorem dX8_init_66 : decode cX8_init 66 = .ok (.iconst 0, 1) := by decide +kernel
theorem dX8_init_67 : decode cX8_init 67 = .ok (.invokevirtual 30, 3) := by decide +kernel
theorem dX8_init_70 : decode cX8_init 70 = .ok (.iinc 3 1, 3) := by decide +kernel
theorem dX8_init_73 : decode cX8_init 73 = .ok (.goto (-20), 3) := by decide +kernel
theorem dX8_init_76 : decode cX8_init 76 = .ok (.iinc 2 1, 3) := by decide +kernel
theorem dX8_init_79 : decode cX8_init 79 = .ok (.goto (-33), 3) := by decide +kernel
theorem dX8_init_82 : decode cX8_init 82 = .ok (.aload_n 0, 1) := by decide +kernel
theorem dX8_init_83 : decode cX8_init 83 = .ok (.bipush 15, 2) := by decide +kernel
theorem dX8_init_85 : decode cX8_init 85 = .ok (.iload_n 1, 1) := by decide +kernel
theorem dX8_init_86 : decode cX8_init 86 = .ok (.iload_n 1, 1) := by decide +kernel
theorem dX8_init_87 : decode cX8_init 87 = .ok (.iconst 1, 1) := by decide +kernel
theorem dX8_init_88 : decode cX8_init 88 = .ok (.invokevirtual 30, 3) := by decide +kernel
theorem dX8_init_91 : decode cX8_init 91 = .ok (.iconst 0, 1) := by decide +kernel
theorem dX8_init_92 : decode cX8_init 92 = .ok (.istore_n 2, 1) := by decide +kernel
theorem dX8_init_93 : decode cX8_init 93 = .ok (.iload_n 2, 1) := by decide +kernel
theorem dX8_init_94 : decode cX8_init 94 = .ok (.aload_n 0, 1) := by decide +kernel
theorem dX8_init_95 : decode cX8_init 95 = .ok (.getfield 13, 3) := by decide +kernel
theorem dX8_init_98 : decode cX8_init 98 = .ok (.arraylength, 1) := by decide +kernel
theorem dX8_init_99 : decode cX8_init 99 = .ok (.if_icmp .ge 45, 3) := by decide +kernel
theorem dX8_init_102 : decode cX8_init 102 = .ok (.aload_n 0, 1) := by decide +kernel
theorem dX8_init_103 : decode cX8_init 103 = .ok (.getfield 7, 3) := by decide +kernel
theorem dX8_init_106 : decode cX8_init 106 = .ok (.iload_n 2, 1) := by decide +kernel
theorem dX8_init_107 : decode cX8_init 107 = .ok (.iaload, 1) := by decide +kernel
theorem dX8_init_108 : decode cX8_init 108 = .ok (.istore_n 3, 1) := by decide +kernel
theorem dX8_init_109 : decode cX8_init 109 = .ok (.aload_n 0, 1) := by decide +kernel
theorem dX8_init_110 : decode cX8_init 110 = .ok (.getfield 13, 3) := by decide +kernel
theorem dX8_init_113 : decode cX8_init 113 = .ok (.iload_n 2, 1) := by decide +kernel
theorem dX8_init_114 : decode cX8_init 114 = .ok (.iload_n 3, 1) := by decide +kernel
theorem dX8_init_115 : decode cX8_init 115 = .ok (.bipush 15, 2) := by decide +kernel
theorem dX8_init_117 : decode cX8_init 117 = .ok (.iand, 1) := by decide +kernel
theorem dX8_init_118 : decode cX8_init 118 = .ok (.bipush 15, 2) := by decide +kernel
theorem dX8_init_120 : decode cX8_init 120 = .ok (.if_icmp .ne 16, 3) := by decide +kernel
theorem dX8_init_123 : decode cX8_init 123 = .ok (.iload_n 3, 1) := by decide +kernel
theorem dX8_init_124 : decode cX8_init 124 = .ok (.bipush 15, 2) := by decide +kernel
theorem dX8_init_126 : decode cX8_init 126 = .ok (.isub, 1) := by decide +kernel
theorem dX8_init_127 : decode cX8_init 127 = .ok (.iload_n 1, 1) := by decide +kernel
theorem dX8_init_128 : decode cX8_init 128 = .ok (.iload_n 1, 1) := by decide +kernel
theorem dX8_init_129 : decode cX8_init 129 = .ok (.invokestatic 26, 3) := by decide +kernel
theorem dX8_init_132 : decode cX8_init 132 = .ok (.iadd, 1) := by decide +kernel
theorem dX8_init_133 : decode cX8_init 133 = .ok (.goto 4, 3) := by decide +kernel
theorem dX8_init_136 : decode cX8_init 136 = .ok (.iload_n 3, 1) := by decide +kernel
theorem dX8_init_137 : decode cX8_init 137 = .ok (.iastore, 1) := by decide +kernel
theorem dX8_init_138 : decode cX8_init 138 = .ok (.iinc 2 1, 3) := by decide +kernel
theorem dX8_init_141 : decode cX8_init 141 = .ok (.goto (-48), 3) := by decide +kernel
theorem dX8_init_144 : decode cX8_init 144 = .ok (.iconst 0, 1) := by decide +kernel
theorem dX8_init_145 : decode cX8_init 145 = .ok (.istore_n 2, 1) := by decide +kernel
theorem dX8_init_146 : decode cX8_init 146 = .ok (.iload_n 2, 1) := by decide +kernel
theorem dX8_init_147 : decode cX8_init 147 = .ok (.aload_n 0, 1) := by decide +kernel
theorem dX8_init_148 : decode cX8_init 148 = .ok (.getfield 16, 3) := by decide +kernel
theorem dX8_init_151 : decode cX8_init 151 = .ok (.arraylength, 1) := by decide +kernel
theorem dX8_init_152 : decode cX8_init 152 = .ok (.if_icmp .ge 43, 3) := by decide +kernel
theorem dX8_init_155 : decode cX8_init 155 = .ok (.aload_n 0, 1) := by decide +kernel
theorem dX8_init_156 : decode cX8_init 156 = .ok (.getfield 16, 3) := by decide +kernel
theorem dX8_init_159 : decode cX8_init 159 = .ok (.iload_n 2, 1) := by decide +kernel
theorem dX8_init_160 : decode cX8_init 160 = .ok (.aload_n 0, 1) := by decide +kernel
theorem dX8_init_161 : decode cX8_init 161 = .ok (.getfield 13, 3) := by decide +kernel
theorem dX8_init_164 : decode cX8_init 164 = .ok (.iload_n 2, 1) := by decide +kernel
theorem dX8_init_165 : decode cX8_init 165 = .ok (.iaload, 1) := by decide +kernel
theorem dX8_init_166 : decode cX8_init 166 = .ok (.aload_n 0, 1) := by decide +kernel
theorem dX8_init_167 : decode cX8_init 167 = .ok (.getfield 13, 3) := by decide +kernel
theorem dX8_init_170 : decode cX8_init 170 = .ok (.iload_n 2, 1) := by decide +kernel
theorem dX8_init_171 : decode cX8_init 171 = .ok (.iconst 1, 1) := by decide +kernel
theorem dX8_init_172 : decode cX8_init 172 = .ok (.iadd, 1) := by decide +kernel
theorem dX8_init_173 : decode cX8_init 173 = .ok (.iaload, 1) := by decide +kernel
theorem dX8_init_174 : decode cX8_init 174 = .ok (.aload_n 0, 1) := by decide +kernel
theorem dX8_init_175 : decode cX8_init 175 = .ok (.getfield 13, 3) := by decide +kernel
theorem dX8_init_178 : decode cX8_init 178 = .ok (.iload_n 2, 1) := by decide +kernel
theorem dX8_init_179 : decode cX8_init 179 = .ok (.iconst 2, 1) := by decide +kernel
theorem dX8_init_180 : decode cX8_init 180 = .ok (.iadd, 1) := by decide +kernel
theorem dX8_init_181 : decode cX8_init 181 = .ok (.iaload, 1) := by decide +kernel
theorem dX8_init_182 : decode cX8_init 182 = .ok (.invokestatic 34, 3) := by decide +kernel
theorem dX8_init_185 : decode cX8_init 185 = .ok (.invokestatic 34, 3) := by decide +kernel
theorem dX8_init_188 : decode cX8_init 188 = .ok (.iastore, 1) := by decide +kernel
theorem dX8_init_189 : decode cX8_init 189 = .ok (.iinc 2 4, 3) := by decide +kernel
theorem dX8_init_192 : decode cX8_init 192 = .ok (.goto (-46), 3) := by decide +kernel
theorem dX8_init_195 : decode cX8_init 195 = .ok (.iconst 0, 1) := by decide +kernel
theorem dX8_init_196 : decode cX8_init 196 = .ok (.istore_n 2, 1) := by decide +kernel
theorem dX8_init_197 : decode cX8_init 197 = .ok (.iload_n 2, 1) := by decide +kernel
theorem dX8_init_198 : decode cX8_init 198 = .ok (.aload_n 0, 1) := by decide +kernel
theorem dX8_init_199 : decode cX8_init 199 = .ok (.getfield 19, 3) := by decide +kernel
theorem dX8_init_202 : decode cX8_init 202 = .ok (.arraylength, 1) := by decide +kernel
theorem dX8_init_203 : decode cX8_init 203 = .ok (.if_icmp .ge 31, 3) := by decide +kernel
theorem dX8_init_206 : decode cX8_init 206 = .ok (.aload_n 0, 1) := by decide +kernel
theorem dX8_init_207 : decode cX8_init 207 = .ok (.getfield 19, 3) := by decide +kernel
theorem dX8_init_210 : decode cX8_init 210 = .ok (.iload_n 2, 1) := by decide +kernel
theorem dX8_init_211 : decode cX8_init 211 = .ok (.aload_n 0, 1) := by decide +kernel
theorem dX8_init_212 : decode cX8_init 212 = .ok (.iload_n 2, 1) := by decide +kernel
theorem dX8_init_213 : decode cX8_init 213 = .ok (.bipush 9, 2) := by decide +kernel
theorem dX8_init_215 : decode cX8_init 215 = .ok (.idiv, 1) := by decide +kernel
theorem dX8_init_216 : decode cX8_init 216 = .ok (.iload_n 2, 1) := by decide +kernel
theorem dX8_init_217 : decode cX8_init 217 = .ok (.iconst 3, 1) := by decide +kernel
theorem dX8_init_218 : decode cX8_init 218 = .ok (.idiv, 1) := by decide +kernel
theorem dX8_init_219 : decode cX8_init 219 = .ok (.iconst 3, 1) := by decide +kernel
theorem dX8_init_220 : decode cX8_init 220 = .ok (.irem, 1) := by decide +kernel
theorem dX8_init_221 : decode cX8_init 221 = .ok (.iload_n 2, 1) := by decide +kernel
theorem dX8_init_222 : decode cX8_init 222 = .ok (.iconst 3, 1) := by decide +kernel
theorem dX8_init_223 : decode cX8_init 223 = .ok (.irem, 1) := by decide +kernel
theorem dX8_init_224 : decode cX8_init 224 = .ok (.invokevirtual 37, 3) := by decide +kernel
theorem dX8_init_227 : decode cX8_init 227 = .ok (.iastore, 1) := by decide +kernel
theorem dX8_init_228 : decode cX8_init 228 = .ok (.iinc 2 1, 3) := by decide +kernel
theorem dX8_init_231 : decode cX8_init 231 = .ok (.goto (-34), 3) := by decide +kernel
theorem dX8_init_234 : decode cX8_init 234 = .ok (.return_, 1) := by decide +kernel
theorem dX8_pair_0 : decode cX8_pair 0 = .ok (.iload_n 1, 1) := by decide +kernel
theorem dX8_pair_1 : decode cX8_pair 1 = .ok (.iload_n 1, 1) := by decide +kernel
theorem dX8_pair_2 : decode cX8_pair 2 = .ok (.iconst 1, 1) := by decide +kernel
theorem dX8_pair_3 : decode cX8_pair 3 = .ok (.iadd, 1) := by decide +kernel
theorem dX8_pair_4 : decode cX8_pair 4 = .ok (.imul, 1) := by decide +kernel
theorem dX8_pair_5 : decode cX8_pair 5 = .ok (.iconst 2, 1) := by decide +kernel
theorem dX8_pair_6 : decode cX8_pair 6 = .ok (.idiv, 1) := by decide +kernel
theorem dX8_pair_7 : decode cX8_pair 7 = .ok (.iload_n 0, 1) := by decide +kernel
theorem dX8_pair_8 : decode cX8_pair 8 = .ok (.iadd, 1) := by decide +kernel
theorem dX8_pair_9 : decode cX8_pair 9 = .ok (.ireturn, 1) := by decide +kernel
theorem dX8_fillSteps_0 : decode cX8_fillSteps 0 = .ok (.iload_n 2, 1) := by decide +kernel
theorem dX8_fillSteps_1 : decode cX8_fillSteps 1 = .ok (.ifCond .eq 11, 3) := by decide +kernel
theorem dX8_fillSteps_4 : decode cX8_fillSteps 4 = .ok (.iload_n 2, 1) := by decide +kernel
theorem dX8_fillSteps_5 : decode cX8_fillSteps 5 = .ok (.aload_n 0, 1) := by decide +kernel
theorem dX8_fillSteps_6 : decode cX8_fillSteps 6 = .ok (.getfield 22, 3) := by decide +kernel
theorem dX8_fillSteps_9 : decode cX8_fillSteps 9 = .ok (.if_icmp .ne 7, 3) := by decide +kernel
theorem dX8_fillSteps_12 : decode cX8_fillSteps 12 = .ok (.iconst 1, 1) := by decide +kernel
theorem dX8_fillSteps_13 : decode cX8_fillSteps 13 = .ok (.goto 4, 3) := by decide +kernel
theorem dX8_fillSteps_16 : decode cX8_fillSteps 16 = .ok (.iconst 0, 1) := by decide +kernel
theorem dX8_fillSteps_17 : decode cX8_fillSteps 17 = .ok (.istore 5, 2) := by decide +kernel
theorem dX8_fillSteps_19 : decode cX8_fillSteps 19 = .ok (.iload_n 3, 1) := by decide +kernel
theorem dX8_fillSteps_20 : decode cX8_fillSteps 20 = .ok (.ifCond .eq 11, 3) := by decide +kernel
theorem dX8_fillSteps_23 : decode cX8_fillSteps 23 = .ok (.iload_n 3, 1) := by decide +kernel
theorem dX8_fillSteps_24 : decode cX8_fillSteps 24 = .ok (.aload_n 0, 1) := by decide +kernel
theorem dX8_fillSteps_25 : decode cX8_fillSteps 25 = .ok (.getfield 22, 3) := by decide +kernel
theorem dX8_fillSteps_28 : decode cX8_fillSteps 28 = .ok (.if_icmp .ne 7, 3) := by decide +kernel
theorem dX8_fillSteps_31 : decode cX8_fillSteps 31 = .ok (.iconst 1, 1) := by decide +kernel
theorem dX8_fillSteps_32 : decode cX8_fillSteps 32 = .ok (.goto 4, 3) := by decide +kernel
theorem dX8_fillSteps_35 : decode cX8_fillSteps 35 = .ok (.iconst 0, 1) := by decide +kernel
theorem dX8_fillSteps_36 : decode cX8_fillSteps 36 = .ok (.istore 6, 2) := by decide +kernel
theorem dX8_fillSteps_38 : decode cX8_fillSteps 38 = .ok (.iload 4, 2) := by decide +kernel
theorem dX8_fillSteps_40 : decode cX8_fillSteps 40 = .ok (.ifCond .eq 7, 3) := by decide +kernel
theorem dX8_fillSteps_43 : decode cX8_fillSteps 43 = .ok (.iconst 1, 1) := by decide +kernel
theorem dX8_fillSteps_44 : decode cX8_fillSteps 44 = .ok (.goto 4, 3) := by decide +kernel
theorem dX8_fillSteps_47 : decode cX8_fillSteps 47 = .ok (.iconst 0, 1) := by decide +kernel
theorem dX8_fillSteps_48 : decode cX8_fillSteps 48 = .ok (.istore 7, 2) := by decide +kernel
theorem dX8_fillSteps_50 : decode cX8_fillSteps 50 = .ok (.iload 5, 2) := by decide +kernel
theorem dX8_fillSteps_52 : decode cX8_fillSteps 52 = .ok (.ifCond .eq 47, 3) := by decide +kernel
theorem dX8_fillSteps_55 : decode cX8_fillSteps 55 = .ok (.iload 6, 2) := by decide +kernel
theorem dX8_fillSteps_57 : decode cX8_fillSteps 57 = .ok (.ifCond .eq 42, 3) := by decide +kernel
theorem dX8_fillSteps_60 : decode cX8_fillSteps 60 = .ok (.aload_n 0, 1) := by decide +kernel
theorem dX8_fillSteps_61 : decode cX8_fillSteps 61 = .ok (.iload_n 1, 1) := by decide +kernel
theorem dX8_fillSteps_62 : decode cX8_fillSteps 62 = .ok (.iconst 0, 1) := by decide +kernel
theorem dX8_fillSteps_63 : decode cX8_fillSteps 63 = .ok (.iconst 0, 1) := by decide +kernel
theorem dX8_fillSteps_64 : decode cX8_fillSteps 64 = .ok (.iconst 0, 1) := by decide +kernel
theorem dX8_fillSteps_65 : decode cX8_fillSteps 65 = .ok (.invokestatic 26, 3) := by decide +kernel
theorem dX8_fillSteps_68 : decode cX8_fillSteps 68 = .ok (.iconst 0, 1) := by decide +kernel
theorem dX8_fillSteps_69 : decode cX8_fillSteps 69 = .ok (.iconst 0, 1) := by decide +kernel
theorem dX8_fillSteps_70 : decode cX8_fillSteps 70 = .ok (.invokevirtual 41, 3) := by decide +kernel
theorem dX8_fillSteps_73 : decode cX8_fillSteps 73 = .ok (.aload_n 0, 1) := by decide +kernel
theorem dX8_fillSteps_74 : decode cX8_fillSteps 74 = .ok (.iload_n 1, 1) := by decide +kernel
theorem dX8_fillSteps_75 : decode cX8_fillSteps 75 = .ok (.iconst 1, 1) := by decide +kernel
theorem dX8_fillSteps_76 : decode cX8_fillSteps 76 = .ok (.iconst 0, 1) := by decide +kernel
theorem dX8_fillSteps_77 : decode cX8_fillSteps 77 = .ok (.iconst 1, 1) := by decide +kernel
theorem dX8_fillSteps_78 : decode cX8_fillSteps 78 = .ok (.invokestatic 26, 3) := by decide +kernel
theorem dX8_fillSteps_81 : decode cX8_fillSteps 81 = .ok (.iconst 0, 1) := by decide +kernel
theorem dX8_fillSteps_82 : decode cX8_fillSteps 82 = .ok (.iconst 1, 1) := by decide +kernel
theorem dX8_fillSteps_83 : decode cX8_fillSteps 83 = .ok (.invokevirtual 41, 3) := by decide +kernel
theorem dX8_fillSteps_86 : decode cX8_fillSteps 86 = .ok (.aload_n 0, 1) := by decide +kernel
theorem dX8_fillSteps_87 : decode cX8_fillSteps 87 = .ok (.iload_n 1, 1) := by decide +kernel
theorem dX8_fillSteps_88 : decode cX8_fillSteps 88 = .ok (.iconst 2, 1) := by decide +kernel
theorem dX8_fillSteps_89 : decode cX8_fillSteps 89 = .ok (.iconst 1, 1) := by decide +kernel
theorem dX8_fillSteps_90 : decode cX8_fillSteps 90 = .ok (.iconst 1, 1) := by decide +kernel
theorem dX8_fillSteps_91 : decode cX8_fillSteps 91 = .ok (.invokestatic 26, 3) := by decide +kernel
theorem dX8_fillSteps_94 : decode cX8_fillSteps 94 = .ok (.iconst 0, 1) := by decide +kernel
theorem dX8_fillSteps_95 : decode cX8_fillSteps 95 = .ok (.iconst 2, 1) := by decide +kernel
theorem dX8_fillSteps_96 : decode cX8_fillSteps 96 = .ok (.invokevirtual 41, 3) := by decide +kernel
theorem dX8_fillSteps_99 : decode cX8_fillSteps 99 = .ok (.iload_n 3, 1) := by decide +kernel
theorem dX8_fillSteps_100 : decode cX8_fillSteps 100 = .ok (.ifCond .le 44, 3) := by decide +kernel
theorem dX8_fillSteps_103 : decode cX8_fillSteps 103 = .ok (.iload 5, 2) := by decide +kernel
theorem dX8_fillSteps_105 : decode cX8_fillSteps 105 = .ok (.ifCond .eq 39, 3) := by decide +kernel
theorem dX8_fillSteps_108 : decode cX8_fillSteps 108 = .ok (.aload_n 0, 1) := by decide +kernel
theorem dX8_fillSteps_109 : decode cX8_fillSteps 109 = .ok (.iload_n 1, 1) := by decide +kernel
theorem dX8_fillSteps_110 : decode cX8_fillSteps 110 = .ok (.iconst 1, 1) := by decide +kernel
theorem dX8_fillSteps_111 : decode cX8_fillSteps 111 = .ok (.iconst 0, 1) := by decide +kernel
theorem dX8_fillSteps_112 : decode cX8_fillSteps 112 = .ok (.aload_n 0, 1) := by decide +kernel
theorem dX8_fillSteps_113 : decode cX8_fillSteps 113 = .ok (.iload_n 3, 1) := by decide +kernel
theorem dX8_fillSteps_114 : decode cX8_fillSteps 114 = .ok (.invokevirtual 45, 3) := by decide +kernel
theorem dX8_fillSteps_117 : decode cX8_fillSteps 117 = .ok (.invokestatic 26, 3) := by decide +kernel
theorem dX8_fillSteps_120 : decode cX8_fillSteps 120 = .ok (.iload 7, 2) := by decide +kernel
theorem dX8_fillSteps_122 : decode cX8_fillSteps 122 = .ok (.iconst 0, 1) := by decide +kernel
theorem dX8_fillSteps_123 : decode cX8_fillSteps 123 = .ok (.invokevirtual 41, 3) := by decide +kernel
theorem dX8_fillSteps_126 : decode cX8_fillSteps 126 = .ok (.aload_n 0, 1) := by decide +kernel
theorem dX8_fillSteps_127 : decode cX8_fillSteps 127 = .ok (.iload_n 1, 1) := by decide +kernel
theorem dX8_fillSteps_128 : decode cX8_fillSteps 128 = .ok (.iconst 2, 1) := by decide +kernel
theorem dX8_fillSteps_129 : decode cX8_fillSteps 129 = .ok (.iconst 1, 1) := by decide +kernel
theorem dX8_fillSteps_130 : decode cX8_fillSteps 130 = .ok (.aload_n 0, 1) := by decide +kernel
theorem dX8_fillSteps_131 : decode cX8_fillSteps 131 = .ok (.iload_n 3, 1) := by decide +kernel
theorem dX8_fillSteps_132 : decode cX8_fillSteps 132 = .ok (.invokevirtual 45, 3) := by decide +kernel
theorem dX8_fillSteps_135 : decode cX8_fillSteps 135 = .ok (.invokestatic 26, 3) := by decide +kernel
theorem dX8_fillSteps_138 : decode cX8_fillSteps 138 = .ok (.iload 7, 2) := by decide +kernel
theorem dX8_fillSteps_140 : decode cX8_fillSteps 140 = .ok (.iconst 1, 1) := by decide +kernel
theorem dX8_fillSteps_141 : decode cX8_fillSteps 141 = .ok (.invokevirtual 41, 3) := by decide +kernel
theorem dX8_fillSteps_144 : decode cX8_fillSteps 144 = .ok (.iload_n 2, 1) := by decide +kernel
theorem dX8_fillSteps_145 : decode cX8_fillSteps 145 = .ok (.ifCond .le 47, 3) := by decide +kernel
theorem dX8_fillSteps_148 : decode cX8_fillSteps 148 = .ok (.iload_n 2, 1) := by decide +kernel
theorem dX8_fillSteps_149 : decode cX8_fillSteps 149 = .ok (.iload_n 3, 1) := by decide +kernel
theorem dX8_fillSteps_150 : decode cX8_fillSteps 150 = .ok (.if_icmp .ge 42, 3) := by decide +kernel
theorem dX8_fillSteps_153 : decode cX8_fillSteps 153 = .ok (.iload 6, 2) := by decide +kernel
theorem dX8_fillSteps_155 : decode cX8_fillSteps 155 = .ok (.ifCond .eq 37, 3) := by decide +kernel
theorem dX8_fillSteps_158 : decode cX8_fillSteps 158 = .ok (.aload_n 0, 1) := by decide +kernel
theorem dX8_fillSteps_159 : decode cX8_fillSteps 159 = .ok (.iload_n 1, 1) := by decide +kernel
theorem dX8_fillSteps_160 : decode cX8_fillSteps 160 = .ok (.iconst 1, 1) := by decide +kernel
theorem dX8_fillSteps_161 : decode cX8_fillSteps 161 = .ok (.iconst 0, 1) := by decide +kernel
theorem dX8_fillSteps_162 : decode cX8_fillSteps 162 = .ok (.aload_n 0, 1) := by decide +kernel
theorem dX8_fillSteps_163 : decode cX8_fillSteps 163 = .ok (.iload_n 2, 1) := by decide +kernel
theorem dX8_fillSteps_164 : decode cX8_fillSteps 164 = .ok (.invokevirtual 45, 3) := by decide +kernel
theorem dX8_fillSteps_167 : decode cX8_fillSteps 167 = .ok (.invokestatic 26, 3) := by decide +kernel
theorem dX8_fillSteps_170 : decode cX8_fillSteps 170 = .ok (.iconst 0, 1) := by decide +kernel
theorem dX8_fillSteps_171 : decode cX8_fillSteps 171 = .ok (.iconst 0, 1) := by decide +kernel
theorem dX8_fillSteps_172 : decode cX8_fillSteps 172 = .ok (.invokevirtual 41, 3) := by decide +kernel
theorem dX8_fillSteps_175 : decode cX8_fillSteps 175 = .ok (.aload_n 0, 1) := by decide +kernel
theorem dX8_fillSteps_176 : decode cX8_fillSteps 176 = .ok (.iload_n 1, 1) := by decide +kernel
theorem dX8_fillSteps_177 : decode cX8_fillSteps 177 = .ok (.iconst 2, 1) := by decide +kernel
theorem dX8_fillSteps_178 : decode cX8_fillSteps 178 = .ok (.iconst 1, 1) := by decide +kernel
theorem dX8_fillSteps_179 : decode cX8_fillSteps 179 = .ok (.aload_n 0, 1) := by decide +kernel
theorem dX8_fillSteps_180 : decode cX8_fillSteps 180 = .ok (.iload_n 2, 1) := by decide +kernel
theorem dX8_fillSteps_181 : decode cX8_fillSteps 181 = .ok (.invokevirtual 45, 3) := by decide +kernel
theorem dX8_fillSteps_184 : decode cX8_fillSteps 184 = .ok (.invokestatic 26, 3) := by decide +kernel
theorem dX8_fillSteps_187 : decode cX8_fillSteps 187 = .ok (.iconst 0, 1) := by decide +kernel
theorem dX8_fillSteps_188 : decode cX8_fillSteps 188 = .ok (.iconst 1, 1) := by decide +kernel
theorem dX8_fillSteps_189 : decode cX8_fillSteps 189 = .ok (.invokevirtual 41, 3) := by decide +kernel
theorem dX8_fillSteps_192 : decode cX8_fillSteps 192 = .ok (.iload_n 2, 1) := by decide +kernel
theorem dX8_fillSteps_193 : decode cX8_fillSteps 193 = .ok (.ifCond .le 63, 3) := by decide +kernel
theorem dX8_fillSteps_196 : decode cX8_fillSteps 196 = .ok (.aload_n 0, 1) := by decide +kernel
theorem dX8_fillSteps_197 : decode cX8_fillSteps 197 = .ok (.iload_n 2, 1) := by decide +kernel
theorem dX8_fillSteps_198 : decode cX8_fillSteps 198 = .ok (.invokevirtual 45, 3) := by decide +kernel
theorem dX8_fillSteps_201 : decode cX8_fillSteps 201 = .ok (.aload_n 0, 1) := by decide +kernel
theorem dX8_fillSteps_202 : decode cX8_fillSteps 202 = .ok (.getfield 22, 3) := by decide +kernel
theorem dX8_fillSteps_205 : decode cX8_fillSteps 205 = .ok (.if_icmp .ne 17, 3) := by decide +kernel
theorem dX8_fillSteps_208 : decode cX8_fillSteps 208 = .ok (.iload 4, 2) := by decide +kernel
theorem dX8_fillSteps_210 : decode cX8_fillSteps 210 = .ok (.ifCond .ne 8, 3) := by decide +kernel
theorem dX8_fillSteps_213 : decode cX8_fillSteps 213 = .ok (.iload_n 2, 1) := by decide +kernel
theorem dX8_fillSteps_214 : decode cX8_fillSteps 214 = .ok (.iload_n 3, 1) := by decide +kernel
theorem dX8_fillSteps_215 : decode cX8_fillSteps 215 = .ok (.if_icmp .ge 7, 3) := by decide +kernel
theorem dX8_fillSteps_218 : decode cX8_fillSteps 218 = .ok (.iconst 1, 1) := by decide +kernel
theorem dX8_fillSteps_219 : decode cX8_fillSteps 219 = .ok (.goto 4, 3) := by decide +kernel
theorem dX8_fillSteps_222 : decode cX8_fillSteps 222 = .ok (.iconst 0, 1) := by decide +kernel
theorem dX8_fillSteps_223 : decode cX8_fillSteps 223 = .ok (.istore 8, 2) := by decide +kernel
theorem dX8_fillSteps_225 : decode cX8_fillSteps 225 = .ok (.aload_n 0, 1) := by decide +kernel
theorem dX8_fillSteps_226 : decode cX8_fillSteps 226 = .ok (.iload_n 1, 1) := by decide +kernel
theorem dX8_fillSteps_227 : decode cX8_fillSteps 227 = .ok (.iconst 2, 1) := by decide +kernel
theorem dX8_fillSteps_228 : decode cX8_fillSteps 228 = .ok (.iload 8, 2) := by decide +kernel
theorem dX8_fillSteps_230 : decode cX8_fillSteps 230 = .ok (.ifCond .eq 8, 3) := by decide +kernel
theorem dX8_fillSteps_233 : decode cX8_fillSteps 233 = .ok (.bipush 15, 2) := by decide +kernel
theorem dX8_fillSteps_235 : decode cX8_fillSteps 235 = .ok (.goto 16, 3) := by decide +kernel
theorem dX8_fillSteps_238 : decode cX8_fillSteps 238 = .ok (.aload_n 0, 1) := by decide +kernel
theorem dX8_fillSteps_239 : decode cX8_fillSteps 239 = .ok (.iload_n 2, 1) := by decide +kernel
theorem dX8_fillSteps_240 : decode cX8_fillSteps 240 = .ok (.invokevirtual 45, 3) := by decide +kernel
theorem dX8_fillSteps_243 : decode cX8_fillSteps 243 = .ok (.aload_n 0, 1) := by decide +kernel
theorem dX8_fillSteps_244 : decode cX8_fillSteps 244 = .ok (.iload_n 3, 1) := by decide +kernel
theorem dX8_fillSteps_245 : decode cX8_fillSteps 245 = .ok (.invokevirtual 45, 3) := by decide +kernel
theorem dX8_fillSteps_248 : decode cX8_fillSteps 248 = .ok (.invokestatic 26, 3) := by decide +kernel
theorem dX8_fillSteps_251 : decode cX8_fillSteps 251 = .ok (.iconst 0, 1) := by decide +kernel
theorem dX8_fillSteps_252 : decode cX8_fillSteps 252 = .ok (.iconst 0, 1) := by decide +kernel
theorem dX8_fillSteps_253 : decode cX8_fillSteps 253 = .ok (.invokevirtual 41, 3) := by decide +kernel
theorem dX8_fillSteps_256 : decode cX8_fillSteps 256 = .ok (.return_, 1) := by decide +kernel
theorem dX8_longer_0 : decode cX8_longer 0 = .ok (.iload_n 1, 1) := by decide +kernel
theorem dX8_longer_1 : decode cX8_longer 1 = .ok (.iconst 1, 1) := by decide +kernel
theorem dX8_longer_2 : decode cX8_longer 2 = .ok (.iadd, 1) := by decide +kernel
theorem dX8_longer_3 : decode cX8_longer 3 = .ok (.aload_n 0, 1) := by decide +kernel
theorem dX8_longer_4 : decode cX8_longer 4 = .ok (.getfield 22, 3) := by decide +kernel
theorem dX8_longer_7 : decode cX8_longer 7 = .ok (.invokestatic 49, 3) := by decide +kernel
theorem dX8_longer_10 : decode cX8_longer 10 = .ok (.ireturn, 1) := by decide +kernel
theorem dX8_addStep_0 : decode cX8_addStep 0 = .ok (.iload_n 1, 1) := by decide +kernel
theorem dX8_addStep_1 : decode cX8_addStep 1 = .ok (.bipush 15, 2) := by decide +kernel
theorem dX8_addStep_3 : decode cX8_addStep 3 = .ok (.iand, 1) := by decide +kernel
theorem dX8_addStep_4 : decode cX8_addStep 4 = .ok (.iconst 4, 1) := by decide +kernel
theorem dX8_addStep_5 : decode cX8_addStep 5 = .ok (.ishl, 1) := by decide +kernel
theorem dX8_addStep_6 : decode cX8_addStep 6 = .ok (.iload_n 2, 1) := by decide +kernel
theorem dX8_addStep_7 : decode cX8_addStep 7 = .ok (.iconst 3, 1) := by decide +kernel
theorem dX8_addStep_8 : decode cX8_addStep 8 = .ok (.iand, 1) := by decide +kernel
theorem dX8_addStep_9 : decode cX8_addStep 9 = .ok (.iconst 2, 1) := by decide +kernel
theorem dX8_addStep_10 : decode cX8_addStep 10 = .ok (.ishl, 1) := by decide +kernel
theorem dX8_addStep_11 : decode cX8_addStep 11 = .ok (.ior, 1) := by decide +kernel
theorem dX8_addStep_12 : decode cX8_addStep 12 = .ok (.istore 6, 2) := by decide +kernel
theorem dX8_addStep_14 : decode cX8_addStep 14 = .ok (.iload 6, 2) := by decide +kernel
theorem dX8_addStep_16 : decode cX8_addStep 16 = .ok (.istore 7, 2) := by decide +kernel
theorem dX8_addStep_18 : decode cX8_addStep 18 = .ok (.iload 7, 2) := by decide +kernel
theorem dX8_addStep_20 : decode cX8_addStep 20 = .ok (.iload 6, 2) := by decide +kernel
theorem dX8_addStep_22 : decode cX8_addStep 22 = .ok (.iconst 3, 1) := by decide +kernel
theorem dX8_addStep_23 : decode cX8_addStep 23 = .ok (.iadd, 1) := by decide +kernel
theorem dX8_addStep_24 : decode cX8_addStep 24 = .ok (.if_icmp .ge 43, 3) := by decide +kernel
theorem dX8_addStep_27 : decode cX8_addStep 27 = .ok (.aload_n 0, 1) := by decide +kernel
theorem dX8_addStep_28 : decode cX8_addStep 28 = .ok (.getfield 7, 3) := by decide +kernel
theorem dX8_addStep_31 : decode cX8_addStep 31 = .ok (.iload 7, 2) := by decide +kernel
theorem dX8_addStep_33 : decode cX8_addStep 33 = .ok (.iaload, 1) := by decide +kernel
theorem dX8_addStep_34 : decode cX8_addStep 34 = .ok (.ifCond .ne 27, 3) := by decide +kernel
theorem dX8_addStep_37 : decode cX8_addStep 37 = .ok (.aload_n 0, 1) := by decide +kernel
theorem dX8_addStep_38 : decode cX8_addStep 38 = .ok (.getfield 7, 3) := by decide +kernel
theorem dX8_addStep_41 : decode cX8_addStep 41 = .ok (.iload 7, 2) := by decide +kernel
theorem dX8_addStep_43 : decode cX8_addStep 43 = .ok (.iload_n 3, 1) := by decide +kernel
theorem dX8_addStep_44 : decode cX8_addStep 44 = .ok (.iload 4, 2) := by decide +kernel
theorem dX8_addStep_46 : decode cX8_addStep 46 = .ok (.bipush 8, 2) := by decide +kernel
theorem dX8_addStep_48 : decode cX8_addStep 48 = .ok (.ishl, 1) := by decide +kernel
theorem dX8_addStep_49 : decode cX8_addStep 49 = .ok (.ior, 1) := by decide +kernel
theorem dX8_addStep_50 : decode cX8_addStep 50 = .ok (.iload 5, 2) := by decide +kernel
theorem dX8_addStep_52 : decode cX8_addStep 52 = .ok (.bipush 16, 2) := by decide +kernel
theorem dX8_addStep_54 : decode cX8_addStep 54 = .ok (.ishl, 1) := by decide +kernel
theorem dX8_addStep_55 : decode cX8_addStep 55 = .ok (.ior, 1) := by decide +kernel
theorem dX8_addStep_56 : decode cX8_addStep 56 = .ok (.ldc 54, 2) := by decide +kernel
theorem dX8_addStep_58 : decode cX8_addStep 58 = .ok (.ior, 1) := by decide +kernel
theorem dX8_addStep_59 : decode cX8_addStep 59 = .ok (.iastore, 1) := by decide +kernel
theorem dX8_addStep_60 : decode cX8_addStep 60 = .ok (.return_, 1) := by decide +kernel
theorem dX8_addStep_61 : decode cX8_addStep 61 = .ok (.iinc 7 1, 3) := by decide +kernel
theorem dX8_addStep_64 : decode cX8_addStep 64 = .ok (.goto (-46), 3) := by decide +kernel
theorem dX8_addStep_67 : decode cX8_addStep 67 = .ok (.return_, 1) := by decide +kernel
theorem dX8_fewestBegun_0 : decode cX8_fewestBegun 0 = .ok (.iload_n 1, 1) := by decide +kernel
theorem dX8_fewestBegun_1 : decode cX8_fewestBegun 1 = .ok (.ifCond .eq 14, 3) := by decide +kernel
theorem dX8_fewestBegun_4 : decode cX8_fewestBegun 4 = .ok (.iload_n 0, 1) := by decide +kernel
theorem dX8_fewestBegun_5 : decode cX8_fewestBegun 5 = .ok (.bipush 16, 2) := by decide +kernel
theorem dX8_fewestBegun_7 : decode cX8_fewestBegun 7 = .ok (.ishr, 1) := by decide +kernel
theorem dX8_fewestBegun_8 : decode cX8_fewestBegun 8 = .ok (.iload_n 1, 1) := by decide +kernel
theorem dX8_fewestBegun_9 : decode cX8_fewestBegun 9 = .ok (.bipush 16, 2) := by decide +kernel
theorem dX8_fewestBegun_11 : decode cX8_fewestBegun 11 = .ok (.ishr, 1) := by decide +kernel
theorem dX8_fewestBegun_12 : decode cX8_fewestBegun 12 = .ok (.if_icmp .ge 7, 3) := by decide +kernel
theorem dX8_fewestBegun_15 : decode cX8_fewestBegun 15 = .ok (.iconst 1, 1) := by decide +kernel
theorem dX8_fewestBegun_16 : decode cX8_fewestBegun 16 = .ok (.goto 4, 3) := by decide +kernel
theorem dX8_fewestBegun_19 : decode cX8_fewestBegun 19 = .ok (.iconst 0, 1) := by decide +kernel
theorem dX8_fewestBegun_20 : decode cX8_fewestBegun 20 = .ok (.istore_n 2, 1) := by decide +kernel
theorem dX8_fewestBegun_21 : decode cX8_fewestBegun 21 = .ok (.iload_n 0, 1) := by decide +kernel
theorem dX8_fewestBegun_22 : decode cX8_fewestBegun 22 = .ok (.ifCond .eq 11, 3) := by decide +kernel
theorem dX8_fewestBegun_25 : decode cX8_fewestBegun 25 = .ok (.iload_n 2, 1) := by decide +kernel
theorem dX8_fewestBegun_26 : decode cX8_fewestBegun 26 = .ok (.ifCond .eq 7, 3) := by decide +kernel
theorem dX8_fewestBegun_29 : decode cX8_fewestBegun 29 = .ok (.iload_n 0, 1) := by decide +kernel
theorem dX8_fewestBegun_30 : decode cX8_fewestBegun 30 = .ok (.goto 4, 3) := by decide +kernel
theorem dX8_fewestBegun_33 : decode cX8_fewestBegun 33 = .ok (.iload_n 1, 1) := by decide +kernel
theorem dX8_fewestBegun_34 : decode cX8_fewestBegun 34 = .ok (.ireturn, 1) := by decide +kernel
theorem dX8_statesWithin_0 : decode cX8_statesWithin 0 = .ok (.ldc 55, 2) := by decide +kernel
theorem dX8_statesWithin_2 : decode cX8_statesWithin 2 = .ok (.istore 4, 2) := by decide +kernel
theorem dX8_statesWithin_4 : decode cX8_statesWithin 4 = .ok (.iconst 0, 1) := by decide +kernel
theorem dX8_statesWithin_5 : decode cX8_statesWithin 5 = .ok (.istore 5, 2) := by decide +kernel
theorem dX8_statesWithin_7 : decode cX8_statesWithin 7 = .ok (.iload 5, 2) := by decide +kernel
theorem dX8_statesWithin_9 : decode cX8_statesWithin 9 = .ok (.aload_n 0, 1) := by decide +kernel
theorem dX8_statesWithin_10 : decode cX8_statesWithin 10 = .ok (.getfield 22, 3) := by decide +kernel
theorem dX8_statesWithin_13 : decode cX8_statesWithin 13 = .ok (.if_icmp .gt 78, 3) := by decide +kernel
theorem dX8_statesWithin_16 : decode cX8_statesWithin 16 = .ok (.iconst 0, 1) := by decide +kernel
theorem dX8_statesWithin_17 : decode cX8_statesWithin 17 = .ok (.istore 6, 2) := by decide +kernel
theorem dX8_statesWithin_19 : decode cX8_statesWithin 19 = .ok (.iload 6, 2) := by decide +kernel
theorem dX8_statesWithin_21 : decode cX8_statesWithin 21 = .ok (.iload 5, 2) := by decide +kernel
theorem dX8_statesWithin_23 : decode cX8_statesWithin 23 = .ok (.if_icmp .gt 62, 3) := by decide +kernel
theorem dX8_statesWithin_26 : decode cX8_statesWithin 26 = .ok (.aload_n 0, 1) := by decide +kernel
theorem dX8_statesWithin_27 : decode cX8_statesWithin 27 = .ok (.iload 6, 2) := by decide +kernel
theorem dX8_statesWithin_29 : decode cX8_statesWithin 29 = .ok (.iload 5, 2) := by decide +kernel
theorem dX8_statesWithin_31 : decode cX8_statesWithin 31 = .ok (.iconst 1, 1) := by decide +kernel
theorem dX8_statesWithin_32 : decode cX8_statesWithin 32 = .ok (.invokevirtual 56, 3) := by decide +kernel
theorem dX8_statesWithin_35 : decode cX8_statesWithin 35 = .ok (.iload_n 1, 1) := by decide +kernel
theorem dX8_statesWithin_36 : decode cX8_statesWithin 36 = .ok (.if_icmp .gt 43, 3) := by decide +kernel
theorem dX8_statesWithin_39 : decode cX8_statesWithin 39 = .ok (.aload_n 0, 1) := by decide +kernel
theorem dX8_statesWithin_40 : decode cX8_statesWithin 40 = .ok (.iload 6, 2) := by decide +kernel
theorem dX8_statesWithin_42 : decode cX8_statesWithin 42 = .ok (.iload 5, 2) := by decide +kernel
theorem dX8_statesWithin_44 : decode cX8_statesWithin 44 = .ok (.iconst 2, 1) := by decide +kernel
theorem dX8_statesWithin_45 : decode cX8_statesWithin 45 = .ok (.invokevirtual 56, 3) := by decide +kernel
theorem dX8_statesWithin_48 : decode cX8_statesWithin 48 = .ok (.iload_n 2, 1) := by decide +kernel
theorem dX8_statesWithin_49 : decode cX8_statesWithin 49 = .ok (.if_icmp .gt 30, 3) := by decide +kernel
theorem dX8_statesWithin_52 : decode cX8_statesWithin 52 = .ok (.aload_n 0, 1) := by decide +kernel
theorem dX8_statesWithin_53 : decode cX8_statesWithin 53 = .ok (.iload 6, 2) := by decide +kernel
theorem dX8_statesWithin_55 : decode cX8_statesWithin 55 = .ok (.iload 5, 2) := by decide +kernel
theorem dX8_statesWithin_57 : decode cX8_statesWithin 57 = .ok (.iconst 3, 1) := by decide +kernel
theorem dX8_statesWithin_58 : decode cX8_statesWithin 58 = .ok (.invokevirtual 56, 3) := by decide +kernel
theorem dX8_statesWithin_61 : decode cX8_statesWithin 61 = .ok (.iload_n 3, 1) := by decide +kernel
theorem dX8_statesWithin_62 : decode cX8_statesWithin 62 = .ok (.if_icmp .gt 17, 3) := by decide +kernel
theorem dX8_statesWithin_65 : decode cX8_statesWithin 65 = .ok (.iload 4, 2) := by decide +kernel
theorem dX8_statesWithin_67 : decode cX8_statesWithin 67 = .ok (.iconst 1, 1) := by decide +kernel
theorem dX8_statesWithin_68 : decode cX8_statesWithin 68 = .ok (.iload 6, 2) := by decide +kernel
theorem dX8_statesWithin_70 : decode cX8_statesWithin 70 = .ok (.iload 5, 2) := by decide +kernel
theorem dX8_statesWithin_72 : decode cX8_statesWithin 72 = .ok (.invokestatic 26, 3) := by decide +kernel
theorem dX8_statesWithin_75 : decode cX8_statesWithin 75 = .ok (.ishl, 1) := by decide +kernel
theorem dX8_statesWithin_76 : decode cX8_statesWithin 76 = .ok (.ior, 1) := by decide +kernel
theorem dX8_statesWithin_77 : decode cX8_statesWithin 77 = .ok (.istore 4, 2) := by decide +kernel
theorem dX8_statesWithin_79 : decode cX8_statesWithin 79 = .ok (.iinc 6 1, 3) := by decide +kernel
theorem dX8_statesWithin_82 : decode cX8_statesWithin 82 = .ok (.goto (-63), 3) := by decide +kernel
theorem dX8_statesWithin_85 : decode cX8_statesWithin 85 = .ok (.iinc 5 1, 3) := by decide +kernel
theorem dX8_statesWithin_88 : decode cX8_statesWithin 88 = .ok (.goto (-81), 3) := by decide +kernel
theorem dX8_statesWithin_91 : decode cX8_statesWithin 91 = .ok (.iload 4, 2) := by decide +kernel
theorem dX8_statesWithin_93 : decode cX8_statesWithin 93 = .ok (.ireturn, 1) := by decide +kernel
theorem dX8_needing_0 : decode cX8_needing 0 = .ok (.iload_n 1, 1) := by decide +kernel
theorem dX8_needing_1 : decode cX8_needing 1 = .ok (.ifCond .le 17, 3) := by decide +kernel
theorem dX8_needing_4 : decode cX8_needing 4 = .ok (.aload_n 0, 1) := by decide +kernel
theorem dX8_needing_5 : decode cX8_needing 5 = .ok (.getfield 22, 3) := by decide +kernel
theorem dX8_needing_8 : decode cX8_needing 8 = .ok (.iload_n 1, 1) := by decide +kernel
theorem dX8_needing_9 : decode cX8_needing 9 = .ok (.isub, 1) := by decide +kernel
theorem dX8_needing_10 : decode cX8_needing 10 = .ok (.iload_n 3, 1) := by decide +kernel
theorem dX8_needing_11 : decode cX8_needing 11 = .ok (.if_icmp .lt 7, 3) := by decide +kernel
theorem dX8_needing_14 : decode cX8_needing 14 = .ok (.iconst 1, 1) := by decide +kernel
theorem dX8_needing_15 : decode cX8_needing 15 = .ok (.goto 4, 3) := by decide +kernel
theorem dX8_needing_18 : decode cX8_needing 18 = .ok (.iconst 0, 1) := by decide +kernel
theorem dX8_needing_19 : decode cX8_needing 19 = .ok (.iload_n 2, 1) := by decide +kernel
theorem dX8_needing_20 : decode cX8_needing 20 = .ok (.ifCond .le 17, 3) := by decide +kernel
theorem dX8_needing_23 : decode cX8_needing 23 = .ok (.aload_n 0, 1) := by decide +kernel
theorem dX8_needing_24 : decode cX8_needing 24 = .ok (.getfield 22, 3) := by decide +kernel
theorem dX8_needing_27 : decode cX8_needing 27 = .ok (.iload_n 2, 1) := by decide +kernel
theorem dX8_needing_28 : decode cX8_needing 28 = .ok (.isub, 1) := by decide +kernel
theorem dX8_needing_29 : decode cX8_needing 29 = .ok (.iload_n 3, 1) := by decide +kernel
theorem dX8_needing_30 : decode cX8_needing 30 = .ok (.if_icmp .lt 7, 3) := by decide +kernel
theorem dX8_needing_33 : decode cX8_needing 33 = .ok (.iconst 1, 1) := by decide +kernel
theorem dX8_needing_34 : decode cX8_needing 34 = .ok (.goto 4, 3) := by decide +kernel
theorem dX8_needing_37 : decode cX8_needing 37 = .ok (.iconst 0, 1) := by decide +kernel
theorem dX8_needing_38 : decode cX8_needing 38 = .ok (.iadd, 1) := by decide +kernel
theorem dX8_needing_39 : decode cX8_needing 39 = .ok (.ireturn, 1) := by decide +kernel
theorem dX8_hopefulWith_0 : decode cX8_hopefulWith 0 = .ok (.aload_n 0, 1) := by decide +kernel
theorem dX8_hopefulWith_1 : decode cX8_hopefulWith 1 = .ok (.getfield 19, 3) := by decide +kernel
theorem dX8_hopefulWith_4 : decode cX8_hopefulWith 4 = .ok (.bipush 9, 2) := by decide +kernel
theorem dX8_hopefulWith_6 : decode cX8_hopefulWith 6 = .ok (.iload_n 1, 1) := by decide +kernel
theorem dX8_hopefulWith_7 : decode cX8_hopefulWith 7 = .ok (.imul, 1) := by decide +kernel
theorem dX8_hopefulWith_8 : decode cX8_hopefulWith 8 = .ok (.iconst 3, 1) := by decide +kernel
theorem dX8_hopefulWith_9 : decode cX8_hopefulWith 9 = .ok (.iload_n 2, 1) := by decide +kernel
theorem dX8_hopefulWith_10 : decode cX8_hopefulWith 10 = .ok (.imul, 1) := by decide +kernel
theorem dX8_hopefulWith_11 : decode cX8_hopefulWith 11 = .ok (.iadd, 1) := by decide +kernel
theorem dX8_hopefulWith_12 : decode cX8_hopefulWith 12 = .ok (.iload_n 3, 1) := by decide +kernel
theorem dX8_hopefulWith_13 : decode cX8_hopefulWith 13 = .ok (.iadd, 1) := by decide +kernel
theorem dX8_hopefulWith_14 : decode cX8_hopefulWith 14 = .ok (.invokestatic 59, 3) := by decide +kernel
theorem dX8_hopefulWith_17 : decode cX8_hopefulWith 17 = .ok (.ireturn, 1) := by decide +kernel
theorem dJ9_max_7cf53_0 : decode cJ9_max_7cf53 0 = .ok (.iload_n 0, 1) := by decide +kernel
theorem dJ9_max_7cf53_1 : decode cJ9_max_7cf53 1 = .ok (.iload_n 1, 1) := by decide +kernel
theorem dJ9_max_7cf53_2 : decode cJ9_max_7cf53 2 = .ok (.if_icmp .lt 7, 3) := by decide +kernel
theorem dJ9_max_7cf53_5 : decode cJ9_max_7cf53 5 = .ok (.iload_n 0, 1) := by decide +kernel
theorem dJ9_max_7cf53_6 : decode cJ9_max_7cf53 6 = .ok (.goto 4, 3) := by decide +kernel
theorem dJ9_max_7cf53_9 : decode cJ9_max_7cf53 9 = .ok (.iload_n 1, 1) := by decide +kernel
theorem dJ9_max_7cf53_10 : decode cJ9_max_7cf53 10 = .ok (.ireturn, 1) := by decide +kernel
theorem dJ9_min_7cf53_0 : decode cJ9_min_7cf53 0 = .ok (.iload_n 0, 1) := by decide +kernel
theorem dJ9_min_7cf53_1 : decode cJ9_min_7cf53 1 = .ok (.iload_n 1, 1) := by decide +kernel
theorem dJ9_min_7cf53_2 : decode cJ9_min_7cf53 2 = .ok (.if_icmp .gt 7, 3) := by decide +kernel
theorem dJ9_min_7cf53_5 : decode cJ9_min_7cf53 5 = .ok (.iload_n 0, 1) := by decide +kernel
theorem dJ9_min_7cf53_6 : decode cJ9_min_7cf53 6 = .ok (.goto 4, 3) := by decide +kernel
theorem dJ9_min_7cf53_9 : decode cJ9_min_7cf53 9 = .ok (.iload_n 1, 1) := by decide +kernel
theorem dJ9_min_7cf53_10 : decode cJ9_min_7cf53 10 = .ok (.ireturn, 1) := by decide +kernel
theorem dJ7_fill_d0a16_0 : decode cJ7_fill_d0a16 0 = .ok (.iconst 0, 1) := by decide +kernel
theorem dJ7_fill_d0a16_1 : decode cJ7_fill_d0a16 1 = .ok (.istore_n 3, 1) := by decide +kernel
theorem dJ7_fill_d0a16_2 : decode cJ7_fill_d0a16 2 = .ok (.aload_n 0, 1) := by decide +kernel
theorem dJ7_fill_d0a16_3 : decode cJ7_fill_d0a16 3 = .ok (.arraylength, 1) := by decide +kernel
theorem dJ7_fill_d0a16_4 : decode cJ7_fill_d0a16 4 = .ok (.istore 4, 2) := by decide +kernel
theorem dJ7_fill_d0a16_6 : decode cJ7_fill_d0a16 6 = .ok (.iload_n 3, 1) := by decide +kernel
theorem dJ7_fill_d0a16_7 : decode cJ7_fill_d0a16 7 = .ok (.iload 4, 2) := by decide +kernel
theorem dJ7_fill_d0a16_9 : decode cJ7_fill_d0a16 9 = .ok (.if_icmp .ge 13, 3) := by decide +kernel
theorem dJ7_fill_d0a16_12 : decode cJ7_fill_d0a16 12 = .ok (.aload_n 0, 1) := by decide +kernel
theorem dJ7_fill_d0a16_13 : decode cJ7_fill_d0a16 13 = .ok (.iload_n 3, 1) := by decide +kernel
theorem dJ7_fill_d0a16_14 : decode cJ7_fill_d0a16 14 = .ok (.lload_n 1, 1) := by decide +kernel
theorem dJ7_fill_d0a16_15 : decode cJ7_fill_d0a16 15 = .ok (.lastore, 1) := by decide +kernel
theorem dJ7_fill_d0a16_16 : decode cJ7_fill_d0a16 16 = .ok (.iinc 3 1, 3) := by decide +kernel
theorem dJ7_fill_d0a16_19 : decode cJ7_fill_d0a16 19 = .ok (.goto (-13), 3) := by decide +kernel
theorem dJ7_fill_d0a16_22 : decode cJ7_fill_d0a16 22 = .ok (.return_, 1) := by decide +kernel
theorem dJ7_fill_53178_0 : decode cJ7_fill_53178 0 = .ok (.iconst 0, 1) := by decide +kernel
theorem dJ7_fill_53178_1 : decode cJ7_fill_53178 1 = .ok (.istore_n 2, 1) := by decide +kernel
theorem dJ7_fill_53178_2 : decode cJ7_fill_53178 2 = .ok (.aload_n 0, 1) := by decide +kernel
theorem dJ7_fill_53178_3 : decode cJ7_fill_53178 3 = .ok (.arraylength, 1) := by decide +kernel
theorem dJ7_fill_53178_4 : decode cJ7_fill_53178 4 = .ok (.istore_n 3, 1) := by decide +kernel
theorem dJ7_fill_53178_5 : decode cJ7_fill_53178 5 = .ok (.iload_n 2, 1) := by decide +kernel
theorem dJ7_fill_53178_6 : decode cJ7_fill_53178 6 = .ok (.iload_n 3, 1) := by decide +kernel
theorem dJ7_fill_53178_7 : decode cJ7_fill_53178 7 = .ok (.if_icmp .ge 13, 3) := by decide +kernel
theorem dJ7_fill_53178_10 : decode cJ7_fill_53178 10 = .ok (.aload_n 0, 1) := by decide +kernel
theorem dJ7_fill_53178_11 : decode cJ7_fill_53178 11 = .ok (.iload_n 2, 1) := by decide +kernel
theorem dJ7_fill_53178_12 : decode cJ7_fill_53178 12 = .ok (.iload_n 1, 1) := by decide +kernel
theorem dJ7_fill_53178_13 : decode cJ7_fill_53178 13 = .ok (.iastore, 1) := by decide +kernel
theorem dJ7_fill_53178_14 : decode cJ7_fill_53178 14 = .ok (.iinc 2 1, 3) := by decide +kernel
theorem dJ7_fill_53178_17 : decode cJ7_fill_53178 17 = .ok (.goto (-12), 3) := by decide +kernel
theorem dJ7_fill_53178_20 : decode cJ7_fill_53178 20 = .ok (.return_, 1) := by decide +kernel
theorem dJ7_copyOf_59c91_0 : decode cJ7_copyOf_59c91 0 = .ok (.iload_n 1, 1) := by decide +kernel
theorem dJ7_copyOf_59c91_1 : decode cJ7_copyOf_59c91 1 = .ok (.aload_n 0, 1) := by decide +kernel
theorem dJ7_copyOf_59c91_2 : decode cJ7_copyOf_59c91 2 = .ok (.arraylength, 1) := by decide +kernel
theorem dJ7_copyOf_59c91_3 : decode cJ7_copyOf_59c91 3 = .ok (.if_icmp .ne 11, 3) := by decide +kernel
theorem dJ7_copyOf_59c91_6 : decode cJ7_copyOf_59c91 6 = .ok (.aload_n 0, 1) := by decide +kernel
theorem dJ7_copyOf_59c91_7 : decode cJ7_copyOf_59c91 7 = .ok (.invokevirtual 316, 3) := by decide +kernel
theorem dJ7_copyOf_59c91_10 : decode cJ7_copyOf_59c91 10 = .ok (.checkcast 317, 3) := by decide +kernel
theorem dJ7_copyOf_59c91_13 : decode cJ7_copyOf_59c91 13 = .ok (.areturn, 1) := by decide +kernel
theorem dJ7_copyOf_59c91_14 : decode cJ7_copyOf_59c91 14 = .ok (.iload_n 1, 1) := by decide +kernel
theorem dJ7_copyOf_59c91_15 : decode cJ7_copyOf_59c91 15 = .ok (.newarray .int, 2) := by decide +kernel
theorem dJ7_copyOf_59c91_17 : decode cJ7_copyOf_59c91 17 = .ok (.astore_n 2, 1) := by decide +kernel
theorem dJ7_copyOf_59c91_18 : decode cJ7_copyOf_59c91 18 = .ok (.aload_n 0, 1) := by decide +kernel
theorem dJ7_copyOf_59c91_19 : decode cJ7_copyOf_59c91 19 = .ok (.iconst 0, 1) := by decide +kernel
theorem dJ7_copyOf_59c91_20 : decode cJ7_copyOf_59c91 20 = .ok (.aload_n 2, 1) := by decide +kernel
theorem dJ7_copyOf_59c91_21 : decode cJ7_copyOf_59c91 21 = .ok (.iconst 0, 1) := by decide +kernel
theorem dJ7_copyOf_59c91_22 : decode cJ7_copyOf_59c91 22 = .ok (.aload_n 0, 1) := by decide +kernel
theorem dJ7_copyOf_59c91_23 : decode cJ7_copyOf_59c91 23 = .ok (.arraylength, 1) := by decide +kernel
theorem dJ7_copyOf_59c91_24 : decode cJ7_copyOf_59c91 24 = .ok (.iload_n 1, 1) := by decide +kernel
theorem dJ7_copyOf_59c91_25 : decode cJ7_copyOf_59c91 25 = .ok (.invokestatic 304, 3) := by decide +kernel
theorem dJ7_copyOf_59c91_28 : decode cJ7_copyOf_59c91 28 = .ok (.invokestatic 150, 3) := by decide +kernel
theorem dJ7_copyOf_59c91_31 : decode cJ7_copyOf_59c91 31 = .ok (.aload_n 2, 1) := by decide +kernel
theorem dJ7_copyOf_59c91_32 : decode cJ7_copyOf_59c91 32 = .ok (.areturn, 1) := by decide +kernel
theorem dJ7_copyOf_c38d5_0 : decode cJ7_copyOf_c38d5 0 = .ok (.iload_n 1, 1) := by decide +kernel
theorem dJ7_copyOf_c38d5_1 : decode cJ7_copyOf_c38d5 1 = .ok (.aload_n 0, 1) := by decide +kernel
theorem dJ7_copyOf_c38d5_2 : decode cJ7_copyOf_c38d5 2 = .ok (.arraylength, 1) := by decide +kernel
theorem dJ7_copyOf_c38d5_3 : decode cJ7_copyOf_c38d5 3 = .ok (.if_icmp .ne 11, 3) := by decide +kernel
theorem dJ7_copyOf_c38d5_6 : decode cJ7_copyOf_c38d5 6 = .ok (.aload_n 0, 1) := by decide +kernel
theorem dJ7_copyOf_c38d5_7 : decode cJ7_copyOf_c38d5 7 = .ok (.invokevirtual 319, 3) := by decide +kernel
theorem dJ7_copyOf_c38d5_10 : decode cJ7_copyOf_c38d5 10 = .ok (.checkcast 320, 3) := by decide +kernel
theorem dJ7_copyOf_c38d5_13 : decode cJ7_copyOf_c38d5 13 = .ok (.areturn, 1) := by decide +kernel
theorem dJ7_copyOf_c38d5_14 : decode cJ7_copyOf_c38d5 14 = .ok (.iload_n 1, 1) := by decide +kernel
theorem dJ7_copyOf_c38d5_15 : decode cJ7_copyOf_c38d5 15 = .ok (.newarray .long, 2) := by decide +kernel
theorem dJ7_copyOf_c38d5_17 : decode cJ7_copyOf_c38d5 17 = .ok (.astore_n 2, 1) := by decide +kernel
theorem dJ7_copyOf_c38d5_18 : decode cJ7_copyOf_c38d5 18 = .ok (.aload_n 0, 1) := by decide +kernel
theorem dJ7_copyOf_c38d5_19 : decode cJ7_copyOf_c38d5 19 = .ok (.iconst 0, 1) := by decide +kernel
theorem dJ7_copyOf_c38d5_20 : decode cJ7_copyOf_c38d5 20 = .ok (.aload_n 2, 1) := by decide +kernel
theorem dJ7_copyOf_c38d5_21 : decode cJ7_copyOf_c38d5 21 = .ok (.iconst 0, 1) := by decide +kernel
theorem dJ7_copyOf_c38d5_22 : decode cJ7_copyOf_c38d5 22 = .ok (.aload_n 0, 1) := by decide +kernel
theorem dJ7_copyOf_c38d5_23 : decode cJ7_copyOf_c38d5 23 = .ok (.arraylength, 1) := by decide +kernel
theorem dJ7_copyOf_c38d5_24 : decode cJ7_copyOf_c38d5 24 = .ok (.iload_n 1, 1) := by decide +kernel
theorem dJ7_copyOf_c38d5_25 : decode cJ7_copyOf_c38d5 25 = .ok (.invokestatic 304, 3) := by decide +kernel
theorem dJ7_copyOf_c38d5_28 : decode cJ7_copyOf_c38d5 28 = .ok (.invokestatic 150, 3) := by decide +kernel
theorem dJ7_copyOf_c38d5_31 : decode cJ7_copyOf_c38d5 31 = .ok (.aload_n 2, 1) := by decide +kernel
theorem dJ7_copyOf_c38d5_32 : decode cJ7_copyOf_c38d5 32 = .ok (.areturn, 1) := by decide +kernel
