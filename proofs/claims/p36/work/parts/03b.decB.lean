theorem dX9_init_0 : decode cX9_init 0 = .ok (.aload_n 0, 1) := by decide +kernel
theorem dX9_init_1 : decode cX9_init 1 = .ok (.invokespecial 3, 3) := by decide +kernel
theorem dX9_init_4 : decode cX9_init 4 = .ok (.aload_n 0, 1) := by decide +kernel
theorem dX9_init_5 : decode cX9_init 5 = .ok (.new 9, 3) := by decide +kernel
theorem dX9_init_8 : decode cX9_init 8 = .ok (.dup, 1) := by decide +kernel
theorem dX9_init_9 : decode cX9_init 9 = .ok (.iconst 3, 1) := by decide +kernel
theorem dX9_init_10 : decode cX9_init 10 = .ok (.invokespecial 11, 3) := by decide +kernel
theorem dX9_init_13 : decode cX9_init 13 = .ok (.putfield 14, 3) := by decide +kernel
theorem dX9_init_16 : decode cX9_init 16 = .ok (.aload_n 0, 1) := by decide +kernel
theorem dX9_init_17 : decode cX9_init 17 = .ok (.new 9, 3) := by decide +kernel
theorem dX9_init_20 : decode cX9_init 20 = .ok (.dup, 1) := by decide +kernel
theorem dX9_init_21 : decode cX9_init 21 = .ok (.iconst 4, 1) := by decide +kernel
theorem dX9_init_22 : decode cX9_init 22 = .ok (.invokespecial 11, 3) := by decide +kernel
theorem dX9_init_25 : decode cX9_init 25 = .ok (.putfield 20, 3) := by decide +kernel
theorem dX9_init_28 : decode cX9_init 28 = .ok (.aload_n 0, 1) := by decide +kernel
theorem dX9_init_29 : decode cX9_init 29 = .ok (.bipush 52, 2) := by decide +kernel
theorem dX9_init_31 : decode cX9_init 31 = .ok (.newarray .int, 2) := by decide +kernel
theorem dX9_init_33 : decode cX9_init 33 = .ok (.putfield 23, 3) := by decide +kernel
theorem dX9_init_36 : decode cX9_init 36 = .ok (.aload_n 0, 1) := by decide +kernel
theorem dX9_init_37 : decode cX9_init 37 = .ok (.bipush 52, 2) := by decide +kernel
theorem dX9_init_39 : decode cX9_init 39 = .ok (.newarray .int, 2) := by decide +kernel
theorem dX9_init_41 : decode cX9_init 41 = .ok (.putfield 27, 3) := by decide +kernel
theorem dX9_init_44 : decode cX9_init 44 = .ok (.aload_n 0, 1) := by decide +kernel
theorem dX9_init_45 : decode cX9_init 45 = .ok (.ldc 32, 2) := by decide +kernel
theorem dX9_init_47 : decode cX9_init 47 = .ok (.newarray .int, 2) := by decide +kernel
theorem dX9_init_49 : decode cX9_init 49 = .ok (.putfield 33, 3) := by decide +kernel
theorem dX9_init_52 : decode cX9_init 52 = .ok (.aload_n 0, 1) := by decide +kernel
theorem dX9_init_53 : decode cX9_init 53 = .ok (.new 30, 3) := by decide +kernel
theorem dX9_init_56 : decode cX9_init 56 = .ok (.dup, 1) := by decide +kernel
theorem dX9_init_57 : decode cX9_init 57 = .ok (.invokespecial 36, 3) := by decide +kernel
theorem dX9_init_60 : decode cX9_init 60 = .ok (.putfield 37, 3) := by decide +kernel
theorem dX9_init_63 : decode cX9_init 63 = .ok (.aload_n 0, 1) := by decide +kernel
theorem dX9_init_64 : decode cX9_init 64 = .ok (.new 30, 3) := by decide +kernel
theorem dX9_init_67 : decode cX9_init 67 = .ok (.dup, 1) := by decide +kernel
theorem dX9_init_68 : decode cX9_init 68 = .ok (.invokespecial 36, 3) := by decide +kernel
theorem dX9_init_71 : decode cX9_init 71 = .ok (.putfield 41, 3) := by decide +kernel
theorem dX9_init_74 : decode cX9_init 74 = .ok (.aload_n 0, 1) := by decide +kernel
theorem dX9_init_75 : decode cX9_init 75 = .ok (.bipush 81, 2) := by decide +kernel
theorem dX9_init_77 : decode cX9_init 77 = .ok (.newarray .int, 2) := by decide +kernel
theorem dX9_init_79 : decode cX9_init 79 = .ok (.putfield 44, 3) := by decide +kernel
theorem dX9_init_82 : decode cX9_init 82 = .ok (.aload_n 0, 1) := by decide +kernel
theorem dX9_init_83 : decode cX9_init 83 = .ok (.bipush 81, 2) := by decide +kernel
theorem dX9_init_85 : decode cX9_init 85 = .ok (.newarray .long, 2) := by decide +kernel
theorem dX9_init_87 : decode cX9_init 87 = .ok (.putfield 47, 3) := by decide +kernel
theorem dX9_init_90 : decode cX9_init 90 = .ok (.aload_n 0, 1) := by decide +kernel
theorem dX9_init_91 : decode cX9_init 91 = .ok (.bipush 81, 2) := by decide +kernel
theorem dX9_init_93 : decode cX9_init 93 = .ok (.newarray .long, 2) := by decide +kernel
theorem dX9_init_95 : decode cX9_init 95 = .ok (.putfield 51, 3) := by decide +kernel
theorem dX9_init_98 : decode cX9_init 98 = .ok (.aload_n 0, 1) := by decide +kernel
theorem dX9_init_99 : decode cX9_init 99 = .ok (.sipush 8739, 3) := by decide +kernel
theorem dX9_init_102 : decode cX9_init 102 = .ok (.newarray .int, 2) := by decide +kernel
theorem dX9_init_104 : decode cX9_init 104 = .ok (.putfield 54, 3) := by decide +kernel
theorem dX9_init_107 : decode cX9_init 107 = .ok (.aload_n 0, 1) := by decide +kernel
theorem dX9_init_108 : decode cX9_init 108 = .ok (.iconst 4, 1) := by decide +kernel
theorem dX9_init_109 : decode cX9_init 109 = .ok (.newarray .int, 2) := by decide +kernel
theorem dX9_init_111 : decode cX9_init 111 = .ok (.putfield 57, 3) := by decide +kernel
theorem dX9_init_114 : decode cX9_init 114 = .ok (.aload_n 0, 1) := by decide +kernel
theorem dX9_init_115 : decode cX9_init 115 = .ok (.iconst 4, 1) := by decide +kernel
theorem dX9_init_116 : decode cX9_init 116 = .ok (.newarray .int, 2) := by decide +kernel
theorem dX9_init_118 : decode cX9_init 118 = .ok (.putfield 60, 3) := by decide +kernel
theorem dX9_init_121 : decode cX9_init 121 = .ok (.aload_n 0, 1) := by decide +kernel
theorem dX9_init_122 : decode cX9_init 122 = .ok (.aload_n 0, 1) := by decide +kernel
theorem dX9_init_123 : decode cX9_init 123 = .ok (.getfield 14, 3) := by decide +kernel
theorem dX9_init_126 : decode cX9_init 126 = .ok (.putfield 63, 3) := by decide +kernel
theorem dX9_init_129 : decode cX9_init 129 = .ok (.aload_n 0, 1) := by decide +kernel
theorem dX9_init_130 : decode cX9_init 130 = .ok (.aload_n 0, 1) := by decide +kernel
theorem dX9_init_131 : decode cX9_init 131 = .ok (.getfield 14, 3) := by decide +kernel
theorem dX9_init_134 : decode cX9_init 134 = .ok (.getfield 66, 3) := by decide +kernel
theorem dX9_init_137 : decode cX9_init 137 = .ok (.putfield 69, 3) := by decide +kernel
theorem dX9_init_140 : decode cX9_init 140 = .ok (.return_, 1) := by decide +kernel
theorem dX9_clear_0 : decode cX9_clear 0 = .ok (.aload_n 0, 1) := by decide +kernel
theorem dX9_clear_1 : decode cX9_clear 1 = .ok (.getfield 23, 3) := by decide +kernel
theorem dX9_clear_4 : decode cX9_clear 4 = .ok (.iconst 0, 1) := by decide +kernel
theorem dX9_clear_5 : decode cX9_clear 5 = .ok (.invokestatic 72, 3) := by decide +kernel
theorem dX9_clear_8 : decode cX9_clear 8 = .ok (.aload_n 0, 1) := by decide +kernel
theorem dX9_clear_9 : decode cX9_clear 9 = .ok (.getfield 27, 3) := by decide +kernel
theorem dX9_clear_12 : decode cX9_clear 12 = .ok (.iconst 0, 1) := by decide +kernel
theorem dX9_clear_13 : decode cX9_clear 13 = .ok (.invokestatic 72, 3) := by decide +kernel
theorem dX9_clear_16 : decode cX9_clear 16 = .ok (.return_, 1) := by decide +kernel
theorem dX9_add_0 : decode cX9_add 0 = .ok (.aload_n 0, 1) := by decide +kernel
theorem dX9_add_1 : decode cX9_add 1 = .ok (.getfield 23, 3) := by decide +kernel
theorem dX9_add_4 : decode cX9_add 4 = .ok (.iload_n 1, 1) := by decide +kernel
theorem dX9_add_5 : decode cX9_add 5 = .ok (.iconst 2, 1) := by decide +kernel
theorem dX9_add_6 : decode cX9_add 6 = .ok (.aload_n 0, 1) := by decide +kernel
theorem dX9_add_7 : decode cX9_add 7 = .ok (.getfield 23, 3) := by decide +kernel
theorem dX9_add_10 : decode cX9_add 10 = .ok (.iload_n 1, 1) := by decide +kernel
theorem dX9_add_11 : decode cX9_add 11 = .ok (.invokestatic 78, 3) := by decide +kernel
theorem dX9_add_14 : decode cX9_add 14 = .ok (.iload_n 2, 1) := by decide +kernel
theorem dX9_add_15 : decode cX9_add 15 = .ok (.iadd, 1) := by decide +kernel
theorem dX9_add_16 : decode cX9_add 16 = .ok (.invokestatic 82, 3) := by decide +kernel
theorem dX9_add_19 : decode cX9_add 19 = .ok (.invokestatic 88, 3) := by decide +kernel
theorem dX9_add_22 : decode cX9_add 22 = .ok (.aload_n 0, 1) := by decide +kernel
theorem dX9_add_23 : decode cX9_add 23 = .ok (.getfield 27, 3) := by decide +kernel
theorem dX9_add_26 : decode cX9_add 26 = .ok (.iload_n 1, 1) := by decide +kernel
theorem dX9_add_27 : decode cX9_add 27 = .ok (.aload_n 0, 1) := by decide +kernel
theorem dX9_add_28 : decode cX9_add 28 = .ok (.getfield 23, 3) := by decide +kernel
theorem dX9_add_31 : decode cX9_add 31 = .ok (.iload_n 1, 1) := by decide +kernel
theorem dX9_add_32 : decode cX9_add 32 = .ok (.invokestatic 78, 3) := by decide +kernel
theorem dX9_add_35 : decode cX9_add 35 = .ok (.invokestatic 88, 3) := by decide +kernel
theorem dX9_add_38 : decode cX9_add 38 = .ok (.return_, 1) := by decide +kernel
theorem dX9_allow_0 : decode cX9_allow 0 = .ok (.aload_n 0, 1) := by decide +kernel
theorem dX9_allow_1 : decode cX9_allow 1 = .ok (.getfield 27, 3) := by decide +kernel
theorem dX9_allow_4 : decode cX9_allow 4 = .ok (.iload_n 1, 1) := by decide +kernel
theorem dX9_allow_5 : decode cX9_allow 5 = .ok (.iconst 2, 1) := by decide +kernel
theorem dX9_allow_6 : decode cX9_allow 6 = .ok (.aload_n 0, 1) := by decide +kernel
theorem dX9_allow_7 : decode cX9_allow 7 = .ok (.getfield 23, 3) := by decide +kernel
theorem dX9_allow_10 : decode cX9_allow 10 = .ok (.iload_n 1, 1) := by decide +kernel
theorem dX9_allow_11 : decode cX9_allow 11 = .ok (.invokestatic 78, 3) := by decide +kernel
theorem dX9_allow_14 : decode cX9_allow 14 = .ok (.iconst 0, 1) := by decide +kernel
theorem dX9_allow_15 : decode cX9_allow 15 = .ok (.iload_n 2, 1) := by decide +kernel
theorem dX9_allow_16 : decode cX9_allow 16 = .ok (.invokestatic 92, 3) := by decide +kernel
theorem dX9_allow_19 : decode cX9_allow 19 = .ok (.iadd, 1) := by decide +kernel
theorem dX9_allow_20 : decode cX9_allow 20 = .ok (.invokestatic 82, 3) := by decide +kernel
theorem dX9_allow_23 : decode cX9_allow 23 = .ok (.invokestatic 88, 3) := by decide +kernel
theorem dX9_allow_26 : decode cX9_allow 26 = .ok (.return_, 1) := by decide +kernel
theorem dX9_go_0 : decode cX9_go 0 = .ok (.aload_n 0, 1) := by decide +kernel
theorem dX9_go_1 : decode cX9_go 1 = .ok (.aload_n 1, 1) := by decide +kernel
theorem dX9_go_2 : decode cX9_go 2 = .ok (.getfield 95, 3) := by decide +kernel
theorem dX9_go_5 : decode cX9_go 5 = .ok (.iconst 4, 1) := by decide +kernel
theorem dX9_go_6 : decode cX9_go 6 = .ok (.if_icmp .ne 10, 3) := by decide +kernel
theorem dX9_go_9 : decode cX9_go 9 = .ok (.aload_n 0, 1) := by decide +kernel
theorem dX9_go_10 : decode cX9_go 10 = .ok (.getfield 20, 3) := by decide +kernel
theorem dX9_go_13 : decode cX9_go 13 = .ok (.goto 7, 3) := by decide +kernel
theorem dX9_go_16 : decode cX9_go 16 = .ok (.aload_n 0, 1) := by decide +kernel
theorem dX9_go_17 : decode cX9_go 17 = .ok (.getfield 14, 3) := by decide +kernel
theorem dX9_go_20 : decode cX9_go 20 = .ok (.putfield 63, 3) := by decide +kernel
theorem dX9_go_23 : decode cX9_go 23 = .ok (.aload_n 0, 1) := by decide +kernel
theorem dX9_go_24 : decode cX9_go 24 = .ok (.iload_n 2, 1) := by decide +kernel
theorem dX9_go_25 : decode cX9_go 25 = .ok (.putfield 101, 3) := by decide +kernel
theorem dX9_go_28 : decode cX9_go 28 = .ok (.aload_n 0, 1) := by decide +kernel
theorem dX9_go_29 : decode cX9_go 29 = .ok (.aload_n 0, 1) := by decide +kernel
theorem dX9_go_30 : decode cX9_go 30 = .ok (.getfield 101, 3) := by decide +kernel
theorem dX9_go_33 : decode cX9_go 33 = .ok (.iconst 2, 1) := by decide +kernel
theorem dX9_go_34 : decode cX9_go 34 = .ok (.if_icmp .ne 13, 3) := by decide +kernel
theorem dX9_go_37 : decode cX9_go 37 = .ok (.aload_n 0, 1) := by decide +kernel
theorem dX9_go_38 : decode cX9_go 38 = .ok (.getfield 63, 3) := by decide +kernel
theorem dX9_go_41 : decode cX9_go 41 = .ok (.getfield 104, 3) := by decide +kernel
theorem dX9_go_44 : decode cX9_go 44 = .ok (.goto 27, 3) := by decide +kernel
theorem dX9_go_47 : decode cX9_go 47 = .ok (.aload_n 0, 1) := by decide +kernel
theorem dX9_go_48 : decode cX9_go 48 = .ok (.getfield 101, 3) := by decide +kernel
theorem dX9_go_51 : decode cX9_go 51 = .ok (.ifCond .ne 13, 3) := by decide +kernel
theorem dX9_go_54 : decode cX9_go 54 = .ok (.aload_n 0, 1) := by decide +kernel
theorem dX9_go_55 : decode cX9_go 55 = .ok (.getfield 63, 3) := by decide +kernel
theorem dX9_go_58 : decode cX9_go 58 = .ok (.getfield 66, 3) := by decide +kernel
theorem dX9_go_61 : decode cX9_go 61 = .ok (.goto 10, 3) := by decide +kernel
theorem dX9_go_64 : decode cX9_go 64 = .ok (.aload_n 0, 1) := by decide +kernel
theorem dX9_go_65 : decode cX9_go 65 = .ok (.getfield 63, 3) := by decide +kernel
theorem dX9_go_68 : decode cX9_go 68 = .ok (.getfield 107, 3) := by decide +kernel
theorem dX9_go_71 : decode cX9_go 71 = .ok (.putfield 69, 3) := by decide +kernel
theorem dX9_go_74 : decode cX9_go 74 = .ok (.aload_n 0, 1) := by decide +kernel
theorem dX9_go_75 : decode cX9_go 75 = .ok (.aload_n 1, 1) := by decide +kernel
theorem dX9_go_76 : decode cX9_go 76 = .ok (.getfield 110, 3) := by decide +kernel
theorem dX9_go_79 : decode cX9_go 79 = .ok (.putfield 113, 3) := by decide +kernel
theorem dX9_go_82 : decode cX9_go 82 = .ok (.aload_n 0, 1) := by decide +kernel
theorem dX9_go_83 : decode cX9_go 83 = .ok (.getfield 37, 3) := by decide +kernel
theorem dX9_go_86 : decode cX9_go 86 = .ok (.iconst 1, 1) := by decide +kernel
theorem dX9_go_87 : decode cX9_go 87 = .ok (.putfield 114, 3) := by decide +kernel
theorem dX9_go_90 : decode cX9_go 90 = .ok (.aload_n 0, 1) := by decide +kernel
theorem dX9_go_91 : decode cX9_go 91 = .ok (.getfield 37, 3) := by decide +kernel
theorem dX9_go_94 : decode cX9_go 94 = .ok (.getfield 117, 3) := by decide +kernel
theorem dX9_go_97 : decode cX9_go 97 = .ok (.iconst 0, 1) := by decide +kernel
theorem dX9_go_98 : decode cX9_go 98 = .ok (.iconst 0, 1) := by decide +kernel
theorem dX9_go_99 : decode cX9_go 99 = .ok (.iastore, 1) := by decide +kernel
theorem dX9_go_100 : decode cX9_go 100 = .ok (.aload_n 0, 1) := by decide +kernel
theorem dX9_go_101 : decode cX9_go 101 = .ok (.getfield 37, 3) := by decide +kernel
theorem dX9_go_104 : decode cX9_go 104 = .ok (.getfield 120, 3) := by decide +kernel
theorem dX9_go_107 : decode cX9_go 107 = .ok (.iconst 0, 1) := by decide +kernel
theorem dX9_go_108 : decode cX9_go 108 = .ok (.aload_n 0, 1) := by decide +kernel
theorem dX9_go_109 : decode cX9_go 109 = .ok (.getfield 101, 3) := by decide +kernel
theorem dX9_go_112 : decode cX9_go 112 = .ok (.iconst 3, 1) := by decide +kernel
theorem dX9_go_113 : decode cX9_go 113 = .ok (.if_icmp .ne 9, 3) := by decide +kernel
theorem dX9_go_116 : decode cX9_go 116 = .ok (.ldc2_w 123, 3) := by decide +kernel
theorem dX9_go_119 : decode cX9_go 119 = .ok (.goto 16, 3) := by decide +kernel
theorem dX9_go_122 : decode cX9_go 122 = .ok (.aload_n 0, 1) := by decide +kernel
theorem dX9_go_123 : decode cX9_go 123 = .ok (.getfield 101, 3) := by decide +kernel
theorem dX9_go_126 : decode cX9_go 126 = .ok (.iconst 2, 1) := by decide +kernel
theorem dX9_go_127 : decode cX9_go 127 = .ok (.if_icmp .ne 7, 3) := by decide +kernel
theorem dX9_go_130 : decode cX9_go 130 = .ok (.lconst 1, 1) := by decide +kernel
theorem dX9_go_131 : decode cX9_go 131 = .ok (.goto 4, 3) := by decide +kernel
theorem dX9_go_134 : decode cX9_go 134 = .ok (.lconst 0, 1) := by decide +kernel
theorem dX9_go_135 : decode cX9_go 135 = .ok (.lastore, 1) := by decide +kernel
theorem dX9_go_136 : decode cX9_go 136 = .ok (.aload_n 0, 1) := by decide +kernel
theorem dX9_go_137 : decode cX9_go 137 = .ok (.getfield 37, 3) := by decide +kernel
theorem dX9_go_140 : decode cX9_go 140 = .ok (.getfield 125, 3) := by decide +kernel
theorem dX9_go_143 : decode cX9_go 143 = .ok (.iconst 0, 1) := by decide +kernel
theorem dX9_go_144 : decode cX9_go 144 = .ok (.lconst 0, 1) := by decide +kernel
theorem dX9_go_145 : decode cX9_go 145 = .ok (.lastore, 1) := by decide +kernel
theorem dX9_go_146 : decode cX9_go 146 = .ok (.iconst 1, 1) := by decide +kernel
theorem dX9_go_147 : decode cX9_go 147 = .ok (.istore 4, 2) := by decide +kernel
theorem dX9_go_149 : decode cX9_go 149 = .ok (.iload 4, 2) := by decide +kernel
theorem dX9_go_151 : decode cX9_go 151 = .ok (.iload_n 3, 1) := by decide +kernel
theorem dX9_go_152 : decode cX9_go 152 = .ok (.if_icmp .gt 83, 3) := by decide +kernel
theorem dX9_go_155 : decode cX9_go 155 = .ok (.aload_n 0, 1) := by decide +kernel
theorem dX9_go_156 : decode cX9_go 156 = .ok (.getfield 37, 3) := by decide +kernel
theorem dX9_go_159 : decode cX9_go 159 = .ok (.getfield 114, 3) := by decide +kernel
theorem dX9_go_162 : decode cX9_go 162 = .ok (.ifCond .le 73, 3) := by decide +kernel
theorem dX9_go_165 : decode cX9_go 165 = .ok (.aload_n 0, 1) := by decide +kernel
theorem dX9_go_166 : decode cX9_go 166 = .ok (.iload 4, 2) := by decide +kernel
theorem dX9_go_168 : decode cX9_go 168 = .ok (.invokevirtual 128, 3) := by decide +kernel
theorem dX9_go_171 : decode cX9_go 171 = .ok (.aload_n 0, 1) := by decide +kernel
theorem dX9_go_172 : decode cX9_go 172 = .ok (.iload 4, 2) := by decide +kernel
theorem dX9_go_174 : decode cX9_go 174 = .ok (.invokevirtual 131, 3) := by decide +kernel
theorem dX9_go_177 : decode cX9_go 177 = .ok (.aload_n 0, 1) := by decide +kernel
theorem dX9_go_178 : decode cX9_go 178 = .ok (.getfield 41, 3) := by decide +kernel
theorem dX9_go_181 : decode cX9_go 181 = .ok (.iconst 0, 1) := by decide +kernel
theorem dX9_go_182 : decode cX9_go 182 = .ok (.putfield 114, 3) := by decide +kernel
theorem dX9_go_185 : decode cX9_go 185 = .ok (.iconst 0, 1) := by decide +kernel
theorem dX9_go_186 : decode cX9_go 186 = .ok (.istore 5, 2) := by decide +kernel
theorem dX9_go_188 : decode cX9_go 188 = .ok (.iload 5, 2) := by decide +kernel
theorem dX9_go_190 : decode cX9_go 190 = .ok (.aload_n 0, 1) := by decide +kernel
theorem dX9_go_191 : decode cX9_go 191 = .ok (.getfield 37, 3) := by decide +kernel
theorem dX9_go_194 : decode cX9_go 194 = .ok (.getfield 114, 3) := by decide +kernel
theorem dX9_go_197 : decode cX9_go 197 = .ok (.if_icmp .ge 28, 3) := by decide +kernel
theorem dX9_go_200 : decode cX9_go 200 = .ok (.iload 5, 2) := by decide +kernel
theorem dX9_go_202 : decode cX9_go 202 = .ok (.aload_n 0, 1) := by decide +kernel
theorem dX9_go_203 : decode cX9_go 203 = .ok (.getfield 37, 3) := by decide +kernel
theorem dX9_go_206 : decode cX9_go 206 = .ok (.getfield 117, 3) := by decide +kernel
theorem dX9_go_209 : decode cX9_go 209 = .ok (.arraylength, 1) := by decide +kernel
theorem dX9_go_210 : decode cX9_go 210 = .ok (.if_icmp .ge 15, 3) := by decide +kernel
theorem dX9_go_213 : decode cX9_go 213 = .ok (.aload_n 0, 1) := by decide +kernel
theorem dX9_go_214 : decode cX9_go 214 = .ok (.iload 5, 2) := by decide +kernel
theorem dX9_go_216 : decode cX9_go 216 = .ok (.invokevirtual 134, 3) := by decide +kernel
theorem dX9_go_219 : decode cX9_go 219 = .ok (.iinc 5 1, 3) := by decide +kernel
theorem dX9_go_222 : decode cX9_go 222 = .ok (.goto (-34), 3) := by decide +kernel
theorem dX9_go_225 : decode cX9_go 225 = .ok (.aload_n 0, 1) := by decide +kernel
theorem dX9_go_226 : decode cX9_go 226 = .ok (.invokevirtual 137, 3) := by decide +kernel
theorem dX9_go_229 : decode cX9_go 229 = .ok (.iinc 4 1, 3) := by decide +kernel
theorem dX9_go_232 : decode cX9_go 232 = .ok (.goto (-83), 3) := by decide +kernel
theorem dX9_go_235 : decode cX9_go 235 = .ok (.aload_n 0, 1) := by decide +kernel
theorem dX9_go_236 : decode cX9_go 236 = .ok (.getfield 37, 3) := by decide +kernel
theorem dX9_go_239 : decode cX9_go 239 = .ok (.getfield 114, 3) := by decide +kernel
theorem dX9_go_242 : decode cX9_go 242 = .ok (.ireturn, 1) := by decide +kernel
theorem dX9_turnOver_0 : decode cX9_turnOver 0 = .ok (.iconst 0, 1) := by decide +kernel
theorem dX9_turnOver_1 : decode cX9_turnOver 1 = .ok (.istore_n 1, 1) := by decide +kernel
theorem dX9_turnOver_2 : decode cX9_turnOver 2 = .ok (.iload_n 1, 1) := by decide +kernel
theorem dX9_turnOver_3 : decode cX9_turnOver 3 = .ok (.aload_n 0, 1) := by decide +kernel
theorem dX9_turnOver_4 : decode cX9_turnOver 4 = .ok (.getfield 41, 3) := by decide +kernel
theorem dX9_turnOver_7 : decode cX9_turnOver 7 = .ok (.getfield 114, 3) := by decide +kernel
theorem dX9_turnOver_10 : decode cX9_turnOver 10 = .ok (.if_icmp .ge 39, 3) := by decide +kernel
theorem dX9_turnOver_13 : decode cX9_turnOver 13 = .ok (.iload_n 1, 1) := by decide +kernel
theorem dX9_turnOver_14 : decode cX9_turnOver 14 = .ok (.aload_n 0, 1) := by decide +kernel
theorem dX9_turnOver_15 : decode cX9_turnOver 15 = .ok (.getfield 41, 3) := by decide +kernel
theorem dX9_turnOver_18 : decode cX9_turnOver 18 = .ok (.getfield 117, 3) := by decide +kernel
theorem dX9_turnOver_21 : decode cX9_turnOver 21 = .ok (.arraylength, 1) := by decide +kernel
theorem dX9_turnOver_22 : decode cX9_turnOver 22 = .ok (.if_icmp .ge 27, 3) := by decide +kernel
theorem dX9_turnOver_25 : decode cX9_turnOver 25 = .ok (.aload_n 0, 1) := by decide +kernel
theorem dX9_turnOver_26 : decode cX9_turnOver 26 = .ok (.getfield 33, 3) := by decide +kernel
theorem dX9_turnOver_29 : decode cX9_turnOver 29 = .ok (.aload_n 0, 1) := by decide +kernel
theorem dX9_turnOver_30 : decode cX9_turnOver 30 = .ok (.getfield 41, 3) := by decide +kernel
theorem dX9_turnOver_33 : decode cX9_turnOver 33 = .ok (.getfield 117, 3) := by decide +kernel
theorem dX9_turnOver_36 : decode cX9_turnOver 36 = .ok (.iload_n 1, 1) := by decide +kernel
theorem dX9_turnOver_37 : decode cX9_turnOver 37 = .ok (.iaload, 1) := by decide +kernel
theorem dX9_turnOver_38 : decode cX9_turnOver 38 = .ok (.ldc 140, 2) := by decide +kernel
theorem dX9_turnOver_40 : decode cX9_turnOver 40 = .ok (.iand, 1) := by decide +kernel
theorem dX9_turnOver_41 : decode cX9_turnOver 41 = .ok (.iconst 0, 1) := by decide +kernel
theorem dX9_turnOver_42 : decode cX9_turnOver 42 = .ok (.iastore, 1) := by decide +kernel
theorem dX9_turnOver_43 : decode cX9_turnOver 43 = .ok (.iinc 1 1, 3) := by decide +kernel
theorem dX9_turnOver_46 : decode cX9_turnOver 46 = .ok (.goto (-44), 3) := by decide +kernel
theorem dX9_turnOver_49 : decode cX9_turnOver 49 = .ok (.aload_n 0, 1) := by decide +kernel
theorem dX9_turnOver_50 : decode cX9_turnOver 50 = .ok (.getfield 37, 3) := by decide +kernel
theorem dX9_turnOver_53 : decode cX9_turnOver 53 = .ok (.astore_n 1, 1) := by decide +kernel
theorem dX9_turnOver_54 : decode cX9_turnOver 54 = .ok (.aload_n 0, 1) := by decide +kernel
theorem dX9_turnOver_55 : decode cX9_turnOver 55 = .ok (.aload_n 0, 1) := by decide +kernel
theorem dX9_turnOver_56 : decode cX9_turnOver 56 = .ok (.getfield 41, 3) := by decide +kernel
theorem dX9_turnOver_59 : decode cX9_turnOver 59 = .ok (.putfield 37, 3) := by decide +kernel
theorem dX9_turnOver_62 : decode cX9_turnOver 62 = .ok (.aload_n 0, 1) := by decide +kernel
theorem dX9_turnOver_63 : decode cX9_turnOver 63 = .ok (.aload_n 1, 1) := by decide +kernel
theorem dX9_turnOver_64 : decode cX9_turnOver 64 = .ok (.putfield 41, 3) := by decide +kernel
theorem dX9_turnOver_67 : decode cX9_turnOver 67 = .ok (.return_, 1) := by decide +kernel
theorem dX9_kindOf_0 : decode cX9_kindOf 0 = .ok (.iload_n 2, 1) := by decide +kernel
theorem dX9_kindOf_1 : decode cX9_kindOf 1 = .ok (.iconst 1, 1) := by decide +kernel
theorem dX9_kindOf_2 : decode cX9_kindOf 2 = .ok (.if_icmp .lt 22, 3) := by decide +kernel
theorem dX9_kindOf_5 : decode cX9_kindOf 5 = .ok (.iload_n 2, 1) := by decide +kernel
theorem dX9_kindOf_6 : decode cX9_kindOf 6 = .ok (.aload_n 0, 1) := by decide +kernel
theorem dX9_kindOf_7 : decode cX9_kindOf 7 = .ok (.getfield 113, 3) := by decide +kernel
theorem dX9_kindOf_10 : decode cX9_kindOf 10 = .ok (.if_icmp .gt 14, 3) := by decide +kernel
theorem dX9_kindOf_13 : decode cX9_kindOf 13 = .ok (.bipush 13, 2) := by decide +kernel
theorem dX9_kindOf_15 : decode cX9_kindOf 15 = .ok (.iload_n 1, 1) := by decide +kernel
theorem dX9_kindOf_16 : decode cX9_kindOf 16 = .ok (.imul, 1) := by decide +kernel
theorem dX9_kindOf_17 : decode cX9_kindOf 17 = .ok (.iload_n 2, 1) := by decide +kernel
theorem dX9_kindOf_18 : decode cX9_kindOf 18 = .ok (.iadd, 1) := by decide +kernel
theorem dX9_kindOf_19 : decode cX9_kindOf 19 = .ok (.iconst 1, 1) := by decide +kernel
theorem dX9_kindOf_20 : decode cX9_kindOf 20 = .ok (.isub, 1) := by decide +kernel
theorem dX9_kindOf_21 : decode cX9_kindOf 21 = .ok (.goto 4, 3) := by decide +kernel
theorem dX9_kindOf_24 : decode cX9_kindOf 24 = .ok (.iconst (-1), 1) := by decide +kernel
theorem dX9_kindOf_25 : decode cX9_kindOf 25 = .ok (.ireturn, 1) := by decide +kernel
theorem dX9_mostOf_0 : decode cX9_mostOf 0 = .ok (.aload_n 0, 1) := by decide +kernel
theorem dX9_mostOf_1 : decode cX9_mostOf 1 = .ok (.iload_n 1, 1) := by decide +kernel
theorem dX9_mostOf_2 : decode cX9_mostOf 2 = .ok (.iload_n 2, 1) := by decide +kernel
theorem dX9_mostOf_3 : decode cX9_mostOf 3 = .ok (.invokevirtual 141, 3) := by decide +kernel
theorem dX9_mostOf_6 : decode cX9_mostOf 6 = .ok (.istore_n 3, 1) := by decide +kernel
theorem dX9_mostOf_7 : decode cX9_mostOf 7 = .ok (.aload_n 0, 1) := by decide +kernel
theorem dX9_mostOf_8 : decode cX9_mostOf 8 = .ok (.getfield 101, 3) := by decide +kernel
theorem dX9_mostOf_11 : decode cX9_mostOf 11 = .ok (.iconst 3, 1) := by decide +kernel
theorem dX9_mostOf_12 : decode cX9_mostOf 12 = .ok (.if_icmp .ne 23, 3) := by decide +kernel
theorem dX9_mostOf_15 : decode cX9_mostOf 15 = .ok (.iload_n 3, 1) := by decide +kernel
theorem dX9_mostOf_16 : decode cX9_mostOf 16 = .ok (.iconst (-1), 1) := by decide +kernel
theorem dX9_mostOf_17 : decode cX9_mostOf 17 = .ok (.if_icmp .eq 18, 3) := by decide +kernel
theorem dX9_mostOf_20 : decode cX9_mostOf 20 = .ok (.iconst 2, 1) := by decide +kernel
theorem dX9_mostOf_21 : decode cX9_mostOf 21 = .ok (.aload_n 0, 1) := by decide +kernel
theorem dX9_mostOf_22 : decode cX9_mostOf 22 = .ok (.getfield 23, 3) := by decide +kernel
theorem dX9_mostOf_25 : decode cX9_mostOf 25 = .ok (.iload_n 3, 1) := by decide +kernel
theorem dX9_mostOf_26 : decode cX9_mostOf 26 = .ok (.invokestatic 78, 3) := by decide +kernel
theorem dX9_mostOf_29 : decode cX9_mostOf 29 = .ok (.iconst 1, 1) := by decide +kernel
theorem dX9_mostOf_30 : decode cX9_mostOf 30 = .ok (.iadd, 1) := by decide +kernel
theorem dX9_mostOf_31 : decode cX9_mostOf 31 = .ok (.invokestatic 82, 3) := by decide +kernel
theorem dX9_mostOf_34 : decode cX9_mostOf 34 = .ok (.ireturn, 1) := by decide +kernel
theorem dX9_mostOf_35 : decode cX9_mostOf 35 = .ok (.aload_n 0, 1) := by decide +kernel
theorem dX9_mostOf_36 : decode cX9_mostOf 36 = .ok (.getfield 27, 3) := by decide +kernel
theorem dX9_mostOf_39 : decode cX9_mostOf 39 = .ok (.iload_n 3, 1) := by decide +kernel
theorem dX9_mostOf_40 : decode cX9_mostOf 40 = .ok (.invokestatic 78, 3) := by decide +kernel
theorem dX9_mostOf_43 : decode cX9_mostOf 43 = .ok (.ireturn, 1) := by decide +kernel
theorem dX9_lookAhead_0 : decode cX9_lookAhead 0 = .ok (.iconst 0, 1) := by decide +kernel
theorem dX9_lookAhead_1 : decode cX9_lookAhead 1 = .ok (.istore_n 2, 1) := by decide +kernel
theorem dX9_lookAhead_2 : decode cX9_lookAhead 2 = .ok (.iload_n 2, 1) := by decide +kernel
theorem dX9_lookAhead_3 : decode cX9_lookAhead 3 = .ok (.iconst 4, 1) := by decide +kernel
theorem dX9_lookAhead_4 : decode cX9_lookAhead 4 = .ok (.if_icmp .ge 126, 3) := by decide +kernel
theorem dX9_lookAhead_7 : decode cX9_lookAhead 7 = .ok (.aload_n 0, 1) := by decide +kernel
theorem dX9_lookAhead_8 : decode cX9_lookAhead 8 = .ok (.iload_n 2, 1) := by decide +kernel
theorem dX9_lookAhead_9 : decode cX9_lookAhead 9 = .ok (.iload_n 1, 1) := by decide +kernel
theorem dX9_lookAhead_10 : decode cX9_lookAhead 10 = .ok (.iconst 1, 1) := by decide +kernel
theorem dX9_lookAhead_11 : decode cX9_lookAhead 11 = .ok (.iadd, 1) := by decide +kernel
theorem dX9_lookAhead_12 : decode cX9_lookAhead 12 = .ok (.invokevirtual 141, 3) := by decide +kernel
theorem dX9_lookAhead_15 : decode cX9_lookAhead 15 = .ok (.istore_n 3, 1) := by decide +kernel
theorem dX9_lookAhead_16 : decode cX9_lookAhead 16 = .ok (.aload_n 0, 1) := by decide +kernel
theorem dX9_lookAhead_17 : decode cX9_lookAhead 17 = .ok (.iload_n 2, 1) := by decide +kernel
theorem dX9_lookAhead_18 : decode cX9_lookAhead 18 = .ok (.iload_n 1, 1) := by decide +kernel
theorem dX9_lookAhead_19 : decode cX9_lookAhead 19 = .ok (.iconst 2, 1) := by decide +kernel
theorem dX9_lookAhead_20 : decode cX9_lookAhead 20 = .ok (.iadd, 1) := by decide +kernel
theorem dX9_lookAhead_21 : decode cX9_lookAhead 21 = .ok (.invokevirtual 141, 3) := by decide +kernel
theorem dX9_lookAhead_24 : decode cX9_lookAhead 24 = .ok (.istore 4, 2) := by decide +kernel
theorem dX9_lookAhead_26 : decode cX9_lookAhead 26 = .ok (.aload_n 0, 1) := by decide +kernel
theorem dX9_lookAhead_27 : decode cX9_lookAhead 27 = .ok (.iload_n 2, 1) := by decide +kernel
theorem dX9_lookAhead_28 : decode cX9_lookAhead 28 = .ok (.iload_n 1, 1) := by decide +kernel
theorem dX9_lookAhead_29 : decode cX9_lookAhead 29 = .ok (.iconst 3, 1) := by decide +kernel
theorem dX9_lookAhead_30 : decode cX9_lookAhead 30 = .ok (.iadd, 1) := by decide +kernel
theorem dX9_lookAhead_31 : decode cX9_lookAhead 31 = .ok (.invokevirtual 141, 3) := by decide +kernel
theorem dX9_lookAhead_34 : decode cX9_lookAhead 34 = .ok (.istore 5, 2) := by decide +kernel
theorem dX9_lookAhead_36 : decode cX9_lookAhead 36 = .ok (.aload_n 0, 1) := by decide +kernel
theorem dX9_lookAhead_37 : decode cX9_lookAhead 37 = .ok (.getfield 60, 3) := by decide +kernel
theorem dX9_lookAhead_40 : decode cX9_lookAhead 40 = .ok (.iload_n 2, 1) := by decide +kernel
theorem dX9_lookAhead_41 : decode cX9_lookAhead 41 = .ok (.aload_n 0, 1) := by decide +kernel
theorem dX9_lookAhead_42 : decode cX9_lookAhead 42 = .ok (.getfield 63, 3) := by decide +kernel
theorem dX9_lookAhead_45 : decode cX9_lookAhead 45 = .ok (.aload_n 0, 1) := by decide +kernel
theorem dX9_lookAhead_46 : decode cX9_lookAhead 46 = .ok (.getfield 23, 3) := by decide +kernel
theorem dX9_lookAhead_49 : decode cX9_lookAhead 49 = .ok (.iload_n 3, 1) := by decide +kernel
theorem dX9_lookAhead_50 : decode cX9_lookAhead 50 = .ok (.invokestatic 78, 3) := by decide +kernel
theorem dX9_lookAhead_53 : decode cX9_lookAhead 53 = .ok (.aload_n 0, 1) := by decide +kernel
theorem dX9_lookAhead_54 : decode cX9_lookAhead 54 = .ok (.getfield 23, 3) := by decide +kernel
theorem dX9_lookAhead_57 : decode cX9_lookAhead 57 = .ok (.iload 4, 2) := by decide +kernel
theorem dX9_lookAhead_59 : decode cX9_lookAhead 59 = .ok (.invokestatic 78, 3) := by decide +kernel
theorem dX9_lookAhead_62 : decode cX9_lookAhead 62 = .ok (.aload_n 0, 1) := by decide +kernel
theorem dX9_lookAhead_63 : decode cX9_lookAhead 63 = .ok (.getfield 23, 3) := by decide +kernel
theorem dX9_lookAhead_66 : decode cX9_lookAhead 66 = .ok (.iload 5, 2) := by decide +kernel
theorem dX9_lookAhead_68 : decode cX9_lookAhead 68 = .ok (.invokestatic 78, 3) := by decide +kernel
theorem dX9_lookAhead_71 : decode cX9_lookAhead 71 = .ok (.invokevirtual 144, 3) := by decide +kernel
theorem dX9_lookAhead_74 : decode cX9_lookAhead 74 = .ok (.iastore, 1) := by decide +kernel
theorem dX9_lookAhead_75 : decode cX9_lookAhead 75 = .ok (.aload_n 0, 1) := by decide +kernel
theorem dX9_lookAhead_76 : decode cX9_lookAhead 76 = .ok (.getfield 57, 3) := by decide +kernel
theorem dX9_lookAhead_79 : decode cX9_lookAhead 79 = .ok (.iload_n 2, 1) := by decide +kernel
theorem dX9_lookAhead_80 : decode cX9_lookAhead 80 = .ok (.aload_n 0, 1) := by decide +kernel
theorem dX9_lookAhead_81 : decode cX9_lookAhead 81 = .ok (.getfield 101, 3) := by decide +kernel
theorem dX9_lookAhead_84 : decode cX9_lookAhead 84 = .ok (.ifCond .ne 8, 3) := by decide +kernel
theorem dX9_lookAhead_87 : decode cX9_lookAhead 87 = .ok (.ldc 140, 2) := by decide +kernel
theorem dX9_lookAhead_89 : decode cX9_lookAhead 89 = .ok (.goto 34, 3) := by decide +kernel
theorem dX9_lookAhead_92 : decode cX9_lookAhead 92 = .ok (.aload_n 0, 1) := by decide +kernel
theorem dX9_lookAhead_93 : decode cX9_lookAhead 93 = .ok (.getfield 63, 3) := by decide +kernel
theorem dX9_lookAhead_96 : decode cX9_lookAhead 96 = .ok (.aload_n 0, 1) := by decide +kernel
theorem dX9_lookAhead_97 : decode cX9_lookAhead 97 = .ok (.iload_n 2, 1) := by decide +kernel
theorem dX9_lookAhead_98 : decode cX9_lookAhead 98 = .ok (.iload_n 1, 1) := by decide +kernel
theorem dX9_lookAhead_99 : decode cX9_lookAhead 99 = .ok (.iconst 1, 1) := by decide +kernel
theorem dX9_lookAhead_100 : decode cX9_lookAhead 100 = .ok (.iadd, 1) := by decide +kernel
theorem dX9_lookAhead_101 : decode cX9_lookAhead 101 = .ok (.invokevirtual 148, 3) := by decide +kernel
theorem dX9_lookAhead_104 : decode cX9_lookAhead 104 = .ok (.aload_n 0, 1) := by decide +kernel
theorem dX9_lookAhead_105 : decode cX9_lookAhead 105 = .ok (.iload_n 2, 1) := by decide +kernel
theorem dX9_lookAhead_106 : decode cX9_lookAhead 106 = .ok (.iload_n 1, 1) := by decide +kernel
theorem dX9_lookAhead_107 : decode cX9_lookAhead 107 = .ok (.iconst 2, 1) := by decide +kernel
theorem dX9_lookAhead_108 : decode cX9_lookAhead 108 = .ok (.iadd, 1) := by decide +kernel
theorem dX9_lookAhead_109 : decode cX9_lookAhead 109 = .ok (.invokevirtual 148, 3) := by decide +kernel
theorem dX9_lookAhead_112 : decode cX9_lookAhead 112 = .ok (.aload_n 0, 1) := by decide +kernel
theorem dX9_lookAhead_113 : decode cX9_lookAhead 113 = .ok (.iload_n 2, 1) := by decide +kernel
theorem dX9_lookAhead_114 : decode cX9_lookAhead 114 = .ok (.iload_n 1, 1) := by decide +kernel
theorem dX9_lookAhead_115 : decode cX9_lookAhead 115 = .ok (.iconst 3, 1) := by decide +kernel
theorem dX9_lookAhead_116 : decode cX9_lookAhead 116 = .ok (.iadd, 1) := by decide +kernel
theorem dX9_lookAhead_117 : decode cX9_lookAhead 117 = .ok (.invokevirtual 148, 3) := by decide +kernel
theorem dX9_lookAhead_120 : decode cX9_lookAhead 120 = .ok (.invokevirtual 144, 3) := by decide +kernel
theorem dX9_lookAhead_123 : decode cX9_lookAhead 123 = .ok (.iastore, 1) := by decide +kernel
theorem dX9_lookAhead_124 : decode cX9_lookAhead 124 = .ok (.iinc 2 1, 3) := by decide +kernel
theorem dX9_lookAhead_127 : decode cX9_lookAhead 127 = .ok (.goto (-125), 3) := by decide +kernel
theorem dX9_lookAhead_130 : decode cX9_lookAhead 130 = .ok (.return_, 1) := by decide +kernel
theorem dX9_gatherWays_0 : decode cX9_gatherWays 0 = .ok (.iconst 0, 1) := by decide +kernel
theorem dX9_gatherWays_1 : decode cX9_gatherWays 1 = .ok (.istore_n 2, 1) := by decide +kernel
theorem dX9_gatherWays_2 : decode cX9_gatherWays 2 = .ok (.iload_n 2, 1) := by decide +kernel
theorem dX9_gatherWays_3 : decode cX9_gatherWays 3 = .ok (.aload_n 0, 1) := by decide +kernel
theorem dX9_gatherWays_4 : decode cX9_gatherWays 4 = .ok (.getfield 151, 3) := by decide +kernel
theorem dX9_gatherWays_7 : decode cX9_gatherWays 7 = .ok (.if_icmp .ge 29, 3) := by decide +kernel
theorem dX9_gatherWays_10 : decode cX9_gatherWays 10 = .ok (.iload_n 2, 1) := by decide +kernel
theorem dX9_gatherWays_11 : decode cX9_gatherWays 11 = .ok (.bipush 81, 2) := by decide +kernel
theorem dX9_gatherWays_13 : decode cX9_gatherWays 13 = .ok (.if_icmp .ge 23, 3) := by decide +kernel
theorem dX9_gatherWays_16 : decode cX9_gatherWays 16 = .ok (.aload_n 0, 1) := by decide +kernel
theorem dX9_gatherWays_17 : decode cX9_gatherWays 17 = .ok (.getfield 54, 3) := by decide +kernel
theorem dX9_gatherWays_20 : decode cX9_gatherWays 20 = .ok (.aload_n 0, 1) := by decide +kernel
theorem dX9_gatherWays_21 : decode cX9_gatherWays 21 = .ok (.getfield 44, 3) := by decide +kernel
theorem dX9_gatherWays_24 : decode cX9_gatherWays 24 = .ok (.iload_n 2, 1) := by decide +kernel
theorem dX9_gatherWays_25 : decode cX9_gatherWays 25 = .ok (.iaload, 1) := by decide +kernel
theorem dX9_gatherWays_26 : decode cX9_gatherWays 26 = .ok (.iconst 0, 1) := by decide +kernel
theorem dX9_gatherWays_27 : decode cX9_gatherWays 27 = .ok (.invokestatic 88, 3) := by decide +kernel
theorem dX9_gatherWays_30 : decode cX9_gatherWays 30 = .ok (.iinc 2 1, 3) := by decide +kernel
theorem dX9_gatherWays_33 : decode cX9_gatherWays 33 = .ok (.goto (-31), 3) := by decide +kernel
theorem dX9_gatherWays_36 : decode cX9_gatherWays 36 = .ok (.aload_n 0, 1) := by decide +kernel
theorem dX9_gatherWays_37 : decode cX9_gatherWays 37 = .ok (.iconst 0, 1) := by decide +kernel
theorem dX9_gatherWays_38 : decode cX9_gatherWays 38 = .ok (.putfield 151, 3) := by decide +kernel
theorem dX9_gatherWays_41 : decode cX9_gatherWays 41 = .ok (.aload_n 0, 1) := by decide +kernel
theorem dX9_gatherWays_42 : decode cX9_gatherWays 42 = .ok (.iconst 0, 1) := by decide +kernel
theorem dX9_gatherWays_43 : decode cX9_gatherWays 43 = .ok (.iload_n 1, 1) := by decide +kernel
theorem dX9_gatherWays_44 : decode cX9_gatherWays 44 = .ok (.invokevirtual 148, 3) := by decide +kernel
theorem dX9_gatherWays_47 : decode cX9_gatherWays 47 = .ok (.aload_n 0, 1) := by decide +kernel
theorem dX9_gatherWays_48 : decode cX9_gatherWays 48 = .ok (.getfield 23, 3) := by decide +kernel
theorem dX9_gatherWays_51 : decode cX9_gatherWays 51 = .ok (.aload_n 0, 1) := by decide +kernel
theorem dX9_gatherWays_52 : decode cX9_gatherWays 52 = .ok (.iconst 0, 1) := by decide +kernel
theorem dX9_gatherWays_53 : decode cX9_gatherWays 53 = .ok (.iload_n 1, 1) := by decide +kernel
theorem dX9_gatherWays_54 : decode cX9_gatherWays 54 = .ok (.invokevirtual 141, 3) := by decide +kernel
theorem dX9_gatherWays_57 : decode cX9_gatherWays 57 = .ok (.invokestatic 78, 3) := by decide +kernel
theorem dX9_gatherWays_60 : decode cX9_gatherWays 60 = .ok (.isub, 1) := by decide +kernel
theorem dX9_gatherWays_61 : decode cX9_gatherWays 61 = .ok (.istore_n 2, 1) := by decide +kernel
theorem dX9_gatherWays_62 : decode cX9_gatherWays 62 = .ok (.aload_n 0, 1) := by decide +kernel
theorem dX9_gatherWays_63 : decode cX9_gatherWays 63 = .ok (.iconst 1, 1) := by decide +kernel
theorem dX9_gatherWays_64 : decode cX9_gatherWays 64 = .ok (.iload_n 1, 1) := by decide +kernel
theorem dX9_gatherWays_65 : decode cX9_gatherWays 65 = .ok (.invokevirtual 148, 3) := by decide +kernel
theorem dX9_gatherWays_68 : decode cX9_gatherWays 68 = .ok (.aload_n 0, 1) := by decide +kernel
theorem dX9_gatherWays_69 : decode cX9_gatherWays 69 = .ok (.getfield 23, 3) := by decide +kernel
theorem dX9_gatherWays_72 : decode cX9_gatherWays 72 = .ok (.aload_n 0, 1) := by decide +kernel
theorem dX9_gatherWays_73 : decode cX9_gatherWays 73 = .ok (.iconst 1, 1) := by decide +kernel
theorem dX9_gatherWays_74 : decode cX9_gatherWays 74 = .ok (.iload_n 1, 1) := by decide +kernel
theorem dX9_gatherWays_75 : decode cX9_gatherWays 75 = .ok (.invokevirtual 141, 3) := by decide +kernel
theorem dX9_gatherWays_78 : decode cX9_gatherWays 78 = .ok (.invokestatic 78, 3) := by decide +kernel
theorem dX9_gatherWays_81 : decode cX9_gatherWays 81 = .ok (.isub, 1) := by decide +kernel
theorem dX9_gatherWays_82 : decode cX9_gatherWays 82 = .ok (.istore_n 3, 1) := by decide +kernel
theorem dX9_gatherWays_83 : decode cX9_gatherWays 83 = .ok (.aload_n 0, 1) := by decide +kernel
theorem dX9_gatherWays_84 : decode cX9_gatherWays 84 = .ok (.iconst 2, 1) := by decide +kernel
theorem dX9_gatherWays_85 : decode cX9_gatherWays 85 = .ok (.iload_n 1, 1) := by decide +kernel
theorem dX9_gatherWays_86 : decode cX9_gatherWays 86 = .ok (.invokevirtual 148, 3) := by decide +kernel
theorem dX9_gatherWays_89 : decode cX9_gatherWays 89 = .ok (.aload_n 0, 1) := by decide +kernel
theorem dX9_gatherWays_90 : decode cX9_gatherWays 90 = .ok (.getfield 23, 3) := by decide +kernel
theorem dX9_gatherWays_93 : decode cX9_gatherWays 93 = .ok (.aload_n 0, 1) := by decide +kernel
theorem dX9_gatherWays_94 : decode cX9_gatherWays 94 = .ok (.iconst 2, 1) := by decide +kernel
theorem dX9_gatherWays_95 : decode cX9_gatherWays 95 = .ok (.iload_n 1, 1) := by decide +kernel
theorem dX9_gatherWays_96 : decode cX9_gatherWays 96 = .ok (.invokevirtual 141, 3) := by decide +kernel
theorem dX9_gatherWays_99 : decode cX9_gatherWays 99 = .ok (.invokestatic 78, 3) := by decide +kernel
theorem dX9_gatherWays_102 : decode cX9_gatherWays 102 = .ok (.isub, 1) := by decide +kernel
theorem dX9_gatherWays_103 : decode cX9_gatherWays 103 = .ok (.istore 4, 2) := by decide +kernel
theorem dX9_gatherWays_105 : decode cX9_gatherWays 105 = .ok (.aload_n 0, 1) := by decide +kernel
theorem dX9_gatherWays_106 : decode cX9_gatherWays 106 = .ok (.iconst 3, 1) := by decide +kernel
theorem dX9_gatherWays_107 : decode cX9_gatherWays 107 = .ok (.iload_n 1, 1) := by decide +kernel
theorem dX9_gatherWays_108 : decode cX9_gatherWays 108 = .ok (.invokevirtual 148, 3) := by decide +kernel
theorem dX9_gatherWays_111 : decode cX9_gatherWays 111 = .ok (.aload_n 0, 1) := by decide +kernel
theorem dX9_gatherWays_112 : decode cX9_gatherWays 112 = .ok (.getfield 23, 3) := by decide +kernel
theorem dX9_gatherWays_115 : decode cX9_gatherWays 115 = .ok (.aload_n 0, 1) := by decide +kernel
theorem dX9_gatherWays_116 : decode cX9_gatherWays 116 = .ok (.iconst 3, 1) := by decide +kernel
theorem dX9_gatherWays_117 : decode cX9_gatherWays 117 = .ok (.iload_n 1, 1) := by decide +kernel
theorem dX9_gatherWays_118 : decode cX9_gatherWays 118 = .ok (.invokevirtual 141, 3) := by decide +kernel
theorem dX9_gatherWays_121 : decode cX9_gatherWays 121 = .ok (.invokestatic 78, 3) := by decide +kernel
theorem dX9_gatherWays_124 : decode cX9_gatherWays 124 = .ok (.isub, 1) := by decide +kernel
theorem dX9_gatherWays_125 : decode cX9_gatherWays 125 = .ok (.istore 5, 2) := by decide +kernel
theorem dX9_gatherWays_127 : decode cX9_gatherWays 127 = .ok (.iconst 0, 1) := by decide +kernel
theorem dX9_gatherWays_128 : decode cX9_gatherWays 128 = .ok (.istore 6, 2) := by decide +kernel
theorem dX9_gatherWays_130 : decode cX9_gatherWays 130 = .ok (.iload 6, 2) := by decide +kernel
theorem dX9_gatherWays_132 : decode cX9_gatherWays 132 = .ok (.iload_n 2, 1) := by decide +kernel
theorem dX9_gatherWays_133 : decode cX9_gatherWays 133 = .ok (.if_icmp .gt 103, 3) := by decide +kernel
theorem dX9_gatherWays_136 : decode cX9_gatherWays 136 = .ok (.iconst 0, 1) := by decide +kernel
theorem dX9_gatherWays_137 : decode cX9_gatherWays 137 = .ok (.istore 7, 2) := by decide +kernel
theorem dX9_gatherWays_139 : decode cX9_gatherWays 139 = .ok (.iload 7, 2) := by decide +kernel
theorem dX9_gatherWays_141 : decode cX9_gatherWays 141 = .ok (.iload_n 3, 1) := by decide +kernel
theorem dX9_gatherWays_142 : decode cX9_gatherWays 142 = .ok (.if_icmp .gt 88, 3) := by decide +kernel
theorem dX9_gatherWays_145 : decode cX9_gatherWays 145 = .ok (.iconst 0, 1) := by decide +kernel
theorem dX9_gatherWays_146 : decode cX9_gatherWays 146 = .ok (.istore 8, 2) := by decide +kernel
theorem dX9_gatherWays_148 : decode cX9_gatherWays 148 = .ok (.iload 8, 2) := by decide +kernel
theorem dX9_gatherWays_150 : decode cX9_gatherWays 150 = .ok (.iload 4, 2) := by decide +kernel
theorem dX9_gatherWays_152 : decode cX9_gatherWays 152 = .ok (.if_icmp .gt 72, 3) := by decide +kernel
theorem dX9_gatherWays_155 : decode cX9_gatherWays 155 = .ok (.iconst 0, 1) := by decide +kernel
theorem dX9_gatherWays_156 : decode cX9_gatherWays 156 = .ok (.istore 9, 2) := by decide +kernel
theorem dX9_gatherWays_158 : decode cX9_gatherWays 158 = .ok (.iload 9, 2) := by decide +kernel
theorem dX9_gatherWays_160 : decode cX9_gatherWays 160 = .ok (.iload 5, 2) := by decide +kernel
theorem dX9_gatherWays_162 : decode cX9_gatherWays 162 = .ok (.if_icmp .gt 56, 3) := by decide +kernel
theorem dX9_gatherWays_165 : decode cX9_gatherWays 165 = .ok (.aload_n 0, 1) := by decide +kernel
theorem dX9_gatherWays_166 : decode cX9_gatherWays 166 = .ok (.getfield 101, 3) := by decide +kernel
theorem dX9_gatherWays_169 : decode cX9_gatherWays 169 = .ok (.iconst 3, 1) := by decide +kernel
theorem dX9_gatherWays_170 : decode cX9_gatherWays 170 = .ok (.if_icmp .ne 18, 3) := by decide +kernel
theorem dX9_gatherWays_173 : decode cX9_gatherWays 173 = .ok (.iload 6, 2) := by decide +kernel
theorem dX9_gatherWays_175 : decode cX9_gatherWays 175 = .ok (.iload 7, 2) := by decide +kernel
theorem dX9_gatherWays_177 : decode cX9_gatherWays 177 = .ok (.iadd, 1) := by decide +kernel
theorem dX9_gatherWays_178 : decode cX9_gatherWays 178 = .ok (.iload 8, 2) := by decide +kernel
theorem dX9_gatherWays_180 : decode cX9_gatherWays 180 = .ok (.iadd, 1) := by decide +kernel
theorem dX9_gatherWays_181 : decode cX9_gatherWays 181 = .ok (.iload 9, 2) := by decide +kernel
theorem dX9_gatherWays_183 : decode cX9_gatherWays 183 = .ok (.iadd, 1) := by decide +kernel
theorem dX9_gatherWays_184 : decode cX9_gatherWays 184 = .ok (.iconst 1, 1) := by decide +kernel
theorem dX9_gatherWays_185 : decode cX9_gatherWays 185 = .ok (.if_icmp .gt 27, 3) := by decide +kernel
theorem dX9_gatherWays_188 : decode cX9_gatherWays 188 = .ok (.aload_n 0, 1) := by decide +kernel
theorem dX9_gatherWays_189 : decode cX9_gatherWays 189 = .ok (.iload_n 1, 1) := by decide +kernel
theorem dX9_gatherWays_190 : decode cX9_gatherWays 190 = .ok (.iload 6, 2) := by decide +kernel
theorem dX9_gatherWays_192 : decode cX9_gatherWays 192 = .ok (.iload 7, 2) := by decide +kernel
theorem dX9_gatherWays_194 : decode cX9_gatherWays 194 = .ok (.iconst 4, 1) := by decide +kernel
theorem dX9_gatherWays_195 : decode cX9_gatherWays 195 = .ok (.ishl, 1) := by decide +kernel
theorem dX9_gatherWays_196 : decode cX9_gatherWays 196 = .ok (.ior, 1) := by decide +kernel
theorem dX9_gatherWays_197 : decode cX9_gatherWays 197 = .ok (.iload 8, 2) := by decide +kernel
theorem dX9_gatherWays_199 : decode cX9_gatherWays 199 = .ok (.bipush 8, 2) := by decide +kernel
theorem dX9_gatherWays_201 : decode cX9_gatherWays 201 = .ok (.ishl, 1) := by decide +kernel
theorem dX9_gatherWays_202 : decode cX9_gatherWays 202 = .ok (.ior, 1) := by decide +kernel
theorem dX9_gatherWays_203 : decode cX9_gatherWays 203 = .ok (.iload 9, 2) := by decide +kernel
theorem dX9_gatherWays_205 : decode cX9_gatherWays 205 = .ok (.bipush 12, 2) := by decide +kernel
theorem dX9_gatherWays_207 : decode cX9_gatherWays 207 = .ok (.ishl, 1) := by decide +kernel
theorem dX9_gatherWays_208 : decode cX9_gatherWays 208 = .ok (.ior, 1) := by decide +kernel
theorem dX9_gatherWays_209 : decode cX9_gatherWays 209 = .ok (.invokevirtual 154, 3) := by decide +kernel
theorem dX9_gatherWays_212 : decode cX9_gatherWays 212 = .ok (.iinc 9 1, 3) := by decide +kernel
theorem dX9_gatherWays_215 : decode cX9_gatherWays 215 = .ok (.goto (-57), 3) := by decide +kernel
theorem dX9_gatherWays_218 : decode cX9_gatherWays 218 = .ok (.iinc 8 1, 3) := by decide +kernel
theorem dX9_gatherWays_221 : decode cX9_gatherWays 221 = .ok (.goto (-73), 3) := by decide +kernel
theorem dX9_gatherWays_224 : decode cX9_gatherWays 224 = .ok (.iinc 7 1, 3) := by decide +kernel
theorem dX9_gatherWays_227 : decode cX9_gatherWays 227 = .ok (.goto (-88), 3) := by decide +kernel
theorem dX9_gatherWays_230 : decode cX9_gatherWays 230 = .ok (.iinc 6 1, 3) := by decide +kernel
theorem dX9_gatherWays_233 : decode cX9_gatherWays 233 = .ok (.goto (-103), 3) := by decide +kernel
theorem dX9_gatherWays_236 : decode cX9_gatherWays 236 = .ok (.return_, 1) := by decide +kernel
theorem dX9_groupAway_0 : decode cX9_groupAway 0 = .ok (.iload_n 2, 1) := by decide +kernel
theorem dX9_groupAway_1 : decode cX9_groupAway 1 = .ok (.istore_n 3, 1) := by decide +kernel
theorem dX9_groupAway_2 : decode cX9_groupAway 2 = .ok (.aload_n 0, 1) := by decide +kernel
theorem dX9_groupAway_3 : decode cX9_groupAway 3 = .ok (.getfield 101, 3) := by decide +kernel
theorem dX9_groupAway_6 : decode cX9_groupAway 6 = .ok (.iconst 3, 1) := by decide +kernel
theorem dX9_groupAway_7 : decode cX9_groupAway 7 = .ok (.if_icmp .ne 13, 3) := by decide +kernel
theorem dX9_groupAway_10 : decode cX9_groupAway 10 = .ok (.iload_n 2, 1) := by decide +kernel
theorem dX9_groupAway_11 : decode cX9_groupAway 11 = .ok (.ifCond .ne 9, 3) := by decide +kernel
theorem dX9_groupAway_14 : decode cX9_groupAway 14 = .ok (.ldc2_w 123, 3) := by decide +kernel
theorem dX9_groupAway_17 : decode cX9_groupAway 17 = .ok (.goto 4, 3) := by decide +kernel
theorem dX9_groupAway_20 : decode cX9_groupAway 20 = .ok (.lconst 0, 1) := by decide +kernel
theorem dX9_groupAway_21 : decode cX9_groupAway 21 = .ok (.lstore 4, 2) := by decide +kernel
theorem dX9_groupAway_23 : decode cX9_groupAway 23 = .ok (.lconst 0, 1) := by decide +kernel
theorem dX9_groupAway_24 : decode cX9_groupAway 24 = .ok (.lstore 6, 2) := by decide +kernel
theorem dX9_groupAway_26 : decode cX9_groupAway 26 = .ok (.iconst 0, 1) := by decide +kernel
theorem dX9_groupAway_27 : decode cX9_groupAway 27 = .ok (.istore 8, 2) := by decide +kernel
theorem dX9_groupAway_29 : decode cX9_groupAway 29 = .ok (.iload 8, 2) := by decide +kernel
theorem dX9_groupAway_31 : decode cX9_groupAway 31 = .ok (.iconst 4, 1) := by decide +kernel
theorem dX9_groupAway_32 : decode cX9_groupAway 32 = .ok (.if_icmp .ge 105, 3) := by decide +kernel
theorem dX9_groupAway_35 : decode cX9_groupAway 35 = .ok (.aload_n 0, 1) := by decide +kernel
theorem dX9_groupAway_36 : decode cX9_groupAway 36 = .ok (.iload 8, 2) := by decide +kernel
theorem dX9_groupAway_38 : decode cX9_groupAway 38 = .ok (.iload_n 1, 1) := by decide +kernel
theorem dX9_groupAway_39 : decode cX9_groupAway 39 = .ok (.invokevirtual 141, 3) := by decide +kernel
theorem dX9_groupAway_42 : decode cX9_groupAway 42 = .ok (.istore 9, 2) := by decide +kernel
theorem dX9_groupAway_44 : decode cX9_groupAway 44 = .ok (.iload_n 2, 1) := by decide +kernel
theorem dX9_groupAway_45 : decode cX9_groupAway 45 = .ok (.iconst 4, 1) := by decide +kernel
theorem dX9_groupAway_46 : decode cX9_groupAway 46 = .ok (.iload 8, 2) := by decide +kernel
theorem dX9_groupAway_48 : decode cX9_groupAway 48 = .ok (.imul, 1) := by decide +kernel
theorem dX9_groupAway_49 : decode cX9_groupAway 49 = .ok (.ishr, 1) := by decide +kernel
theorem dX9_groupAway_50 : decode cX9_groupAway 50 = .ok (.iconst 3, 1) := by decide +kernel
theorem dX9_groupAway_51 : decode cX9_groupAway 51 = .ok (.iand, 1) := by decide +kernel
theorem dX9_groupAway_52 : decode cX9_groupAway 52 = .ok (.istore 10, 2) := by decide +kernel
theorem dX9_groupAway_54 : decode cX9_groupAway 54 = .ok (.iload_n 3, 1) := by decide +kernel
theorem dX9_groupAway_55 : decode cX9_groupAway 55 = .ok (.aload_n 0, 1) := by decide +kernel
theorem dX9_groupAway_56 : decode cX9_groupAway 56 = .ok (.getfield 23, 3) := by decide +kernel
theorem dX9_groupAway_59 : decode cX9_groupAway 59 = .ok (.iload 9, 2) := by decide +kernel
theorem dX9_groupAway_61 : decode cX9_groupAway 61 = .ok (.invokestatic 78, 3) := by decide +kernel
theorem dX9_groupAway_64 : decode cX9_groupAway 64 = .ok (.iconst 4, 1) := by decide +kernel
theorem dX9_groupAway_65 : decode cX9_groupAway 65 = .ok (.iload 8, 2) := by decide +kernel
theorem dX9_groupAway_67 : decode cX9_groupAway 67 = .ok (.imul, 1) := by decide +kernel
theorem dX9_groupAway_68 : decode cX9_groupAway 68 = .ok (.ishl, 1) := by decide +kernel
theorem dX9_groupAway_69 : decode cX9_groupAway 69 = .ok (.iadd, 1) := by decide +kernel
theorem dX9_groupAway_70 : decode cX9_groupAway 70 = .ok (.istore_n 3, 1) := by decide +kernel
theorem dX9_groupAway_71 : decode cX9_groupAway 71 = .ok (.iload 10, 2) := by decide +kernel
theorem dX9_groupAway_73 : decode cX9_groupAway 73 = .ok (.ifCond .le 23, 3) := by decide +kernel
theorem dX9_groupAway_76 : decode cX9_groupAway 76 = .ok (.aload_n 0, 1) := by decide +kernel
theorem dX9_groupAway_77 : decode cX9_groupAway 77 = .ok (.getfield 101, 3) := by decide +kernel
theorem dX9_groupAway_80 : decode cX9_groupAway 80 = .ok (.iconst 3, 1) := by decide +kernel
theorem dX9_groupAway_81 : decode cX9_groupAway 81 = .ok (.if_icmp .ne 15, 3) := by decide +kernel
theorem dX9_groupAway_84 : decode cX9_groupAway 84 = .ok (.lload 4, 2) := by decide +kernel
theorem dX9_groupAway_86 : decode cX9_groupAway 86 = .ok (.lconst 1, 1) := by decide +kernel
theorem dX9_groupAway_87 : decode cX9_groupAway 87 = .ok (.iload 9, 2) := by decide +kernel
theorem dX9_groupAway_89 : decode cX9_groupAway 89 = .ok (.lshl, 1) := by decide +kernel
theorem dX9_groupAway_90 : decode cX9_groupAway 90 = .ok (.lor, 1) := by decide +kernel
theorem dX9_groupAway_91 : decode cX9_groupAway 91 = .ok (.lstore 4, 2) := by decide +kernel
theorem dX9_groupAway_93 : decode cX9_groupAway 93 = .ok (.goto 38, 3) := by decide +kernel
theorem dX9_groupAway_96 : decode cX9_groupAway 96 = .ok (.iload 10, 2) := by decide +kernel
theorem dX9_groupAway_98 : decode cX9_groupAway 98 = .ok (.ifCond .le 33, 3) := by decide +kernel
theorem dX9_groupAway_101 : decode cX9_groupAway 101 = .ok (.lload 4, 2) := by decide +kernel
theorem dX9_groupAway_103 : decode cX9_groupAway 103 = .ok (.iload 10, 2) := by decide +kernel
theorem dX9_groupAway_105 : decode cX9_groupAway 105 = .ok (.i2l, 1) := by decide +kernel
theorem dX9_groupAway_106 : decode cX9_groupAway 106 = .ok (.aload_n 0, 1) := by decide +kernel
theorem dX9_groupAway_107 : decode cX9_groupAway 107 = .ok (.iload 9, 2) := by decide +kernel
theorem dX9_groupAway_109 : decode cX9_groupAway 109 = .ok (.invokevirtual 158, 3) := by decide +kernel
theorem dX9_groupAway_112 : decode cX9_groupAway 112 = .ok (.lmul, 1) := by decide +kernel
theorem dX9_groupAway_113 : decode cX9_groupAway 113 = .ok (.ladd, 1) := by decide +kernel
theorem dX9_groupAway_114 : decode cX9_groupAway 114 = .ok (.lstore 4, 2) := by decide +kernel
theorem dX9_groupAway_116 : decode cX9_groupAway 116 = .ok (.lload 6, 2) := by decide +kernel
theorem dX9_groupAway_118 : decode cX9_groupAway 118 = .ok (.iload 10, 2) := by decide +kernel
theorem dX9_groupAway_120 : decode cX9_groupAway 120 = .ok (.i2l, 1) := by decide +kernel
theorem dX9_groupAway_121 : decode cX9_groupAway 121 = .ok (.aload_n 0, 1) := by decide +kernel
theorem dX9_groupAway_122 : decode cX9_groupAway 122 = .ok (.iload 9, 2) := by decide +kernel
theorem dX9_groupAway_124 : decode cX9_groupAway 124 = .ok (.invokevirtual 162, 3) := by decide +kernel
theorem dX9_groupAway_127 : decode cX9_groupAway 127 = .ok (.lmul, 1) := by decide +kernel
theorem dX9_groupAway_128 : decode cX9_groupAway 128 = .ok (.ladd, 1) := by decide +kernel
theorem dX9_groupAway_129 : decode cX9_groupAway 129 = .ok (.lstore 6, 2) := by decide +kernel
theorem dX9_groupAway_131 : decode cX9_groupAway 131 = .ok (.iinc 8 1, 3) := by decide +kernel
theorem dX9_groupAway_134 : decode cX9_groupAway 134 = .ok (.goto (-105), 3) := by decide +kernel
theorem dX9_groupAway_137 : decode cX9_groupAway 137 = .ok (.iconst 0, 1) := by decide +kernel
theorem dX9_groupAway_138 : decode cX9_groupAway 138 = .ok (.istore 8, 2) := by decide +kernel
theorem dX9_groupAway_140 : decode cX9_groupAway 140 = .ok (.iload 8, 2) := by decide +kernel
theorem dX9_groupAway_142 : decode cX9_groupAway 142 = .ok (.getstatic 165, 3) := by decide +kernel
theorem dX9_groupAway_145 : decode cX9_groupAway 145 = .ok (.arraylength, 1) := by decide +kernel
theorem dX9_groupAway_146 : decode cX9_groupAway 146 = .ok (.if_icmp .ge 83, 3) := by decide +kernel
theorem dX9_groupAway_149 : decode cX9_groupAway 149 = .ok (.iload_n 3, 1) := by decide +kernel
theorem dX9_groupAway_150 : decode cX9_groupAway 150 = .ok (.ldc 168, 2) := by decide +kernel
theorem dX9_groupAway_152 : decode cX9_groupAway 152 = .ok (.ior, 1) := by decide +kernel
theorem dX9_groupAway_153 : decode cX9_groupAway 153 = .ok (.getstatic 165, 3) := by decide +kernel
theorem dX9_groupAway_156 : decode cX9_groupAway 156 = .ok (.iload 8, 2) := by decide +kernel
theorem dX9_groupAway_158 : decode cX9_groupAway 158 = .ok (.iaload, 1) := by decide +kernel
theorem dX9_groupAway_159 : decode cX9_groupAway 159 = .ok (.isub, 1) := by decide +kernel
theorem dX9_groupAway_160 : decode cX9_groupAway 160 = .ok (.istore 9, 2) := by decide +kernel
theorem dX9_groupAway_162 : decode cX9_groupAway 162 = .ok (.iload 9, 2) := by decide +kernel
theorem dX9_groupAway_164 : decode cX9_groupAway 164 = .ok (.ldc 168, 2) := by decide +kernel
theorem dX9_groupAway_166 : decode cX9_groupAway 166 = .ok (.iand, 1) := by decide +kernel
theorem dX9_groupAway_167 : decode cX9_groupAway 167 = .ok (.ldc 168, 2) := by decide +kernel
theorem dX9_groupAway_169 : decode cX9_groupAway 169 = .ok (.if_icmp .ne 54, 3) := by decide +kernel
theorem dX9_groupAway_172 : decode cX9_groupAway 172 = .ok (.iload 8, 2) := by decide +kernel
theorem dX9_groupAway_174 : decode cX9_groupAway 174 = .ok (.ifCond .ne 7, 3) := by decide +kernel
theorem dX9_groupAway_177 : decode cX9_groupAway 177 = .ok (.iconst 0, 1) := by decide +kernel
theorem dX9_groupAway_178 : decode cX9_groupAway 178 = .ok (.goto 15, 3) := by decide +kernel
theorem dX9_groupAway_181 : decode cX9_groupAway 181 = .ok (.iload 8, 2) := by decide +kernel
theorem dX9_groupAway_183 : decode cX9_groupAway 183 = .ok (.bipush 6, 2) := by decide +kernel
theorem dX9_groupAway_185 : decode cX9_groupAway 185 = .ok (.if_icmp .ge 7, 3) := by decide +kernel
theorem dX9_groupAway_188 : decode cX9_groupAway 188 = .ok (.iconst 1, 1) := by decide +kernel
theorem dX9_groupAway_189 : decode cX9_groupAway 189 = .ok (.goto 4, 3) := by decide +kernel
theorem dX9_groupAway_192 : decode cX9_groupAway 192 = .ok (.iconst 2, 1) := by decide +kernel
theorem dX9_groupAway_193 : decode cX9_groupAway 193 = .ok (.istore 10, 2) := by decide +kernel
theorem dX9_groupAway_195 : decode cX9_groupAway 195 = .ok (.aload_n 0, 1) := by decide +kernel
theorem dX9_groupAway_196 : decode cX9_groupAway 196 = .ok (.iload 9, 2) := by decide +kernel
theorem dX9_groupAway_198 : decode cX9_groupAway 198 = .ok (.sipush 13107, 3) := by decide +kernel
theorem dX9_groupAway_201 : decode cX9_groupAway 201 = .ok (.iand, 1) := by decide +kernel
theorem dX9_groupAway_202 : decode cX9_groupAway 202 = .ok (.aload_n 0, 1) := by decide +kernel
theorem dX9_groupAway_203 : decode cX9_groupAway 203 = .ok (.getfield 101, 3) := by decide +kernel
theorem dX9_groupAway_206 : decode cX9_groupAway 206 = .ok (.iconst 2, 1) := by decide +kernel
theorem dX9_groupAway_207 : decode cX9_groupAway 207 = .ok (.if_icmp .ne 9, 3) := by decide +kernel
theorem dX9_groupAway_210 : decode cX9_groupAway 210 = .ok (.iload 10, 2) := by decide +kernel
theorem dX9_groupAway_212 : decode cX9_groupAway 212 = .ok (.i2l, 1) := by decide +kernel
theorem dX9_groupAway_213 : decode cX9_groupAway 213 = .ok (.goto 5, 3) := by decide +kernel
theorem dX9_groupAway_216 : decode cX9_groupAway 216 = .ok (.lload 4, 2) := by decide +kernel
theorem dX9_groupAway_218 : decode cX9_groupAway 218 = .ok (.lload 6, 2) := by decide +kernel
theorem dX9_groupAway_220 : decode cX9_groupAway 220 = .ok (.invokevirtual 169, 3) := by decide +kernel
theorem dX9_groupAway_223 : decode cX9_groupAway 223 = .ok (.iinc 8 1, 3) := by decide +kernel
theorem dX9_groupAway_226 : decode cX9_groupAway 226 = .ok (.goto (-86), 3) := by decide +kernel
theorem dX9_groupAway_229 : decode cX9_groupAway 229 = .ok (.return_, 1) := by decide +kernel
theorem dX9_addWay_0 : decode cX9_addWay 0 = .ok (.iload_n 1, 1) := by decide +kernel
theorem dX9_addWay_1 : decode cX9_addWay 1 = .ok (.ifCond .lt 10, 3) := by decide +kernel
theorem dX9_addWay_4 : decode cX9_addWay 4 = .ok (.iload_n 1, 1) := by decide +kernel
theorem dX9_addWay_5 : decode cX9_addWay 5 = .ok (.sipush 8738, 3) := by decide +kernel
theorem dX9_addWay_8 : decode cX9_addWay 8 = .ok (.if_icmp .le 4, 3) := by decide +kernel
theorem dX9_addWay_11 : decode cX9_addWay 11 = .ok (.return_, 1) := by decide +kernel
theorem dX9_addWay_12 : decode cX9_addWay 12 = .ok (.aload_n 0, 1) := by decide +kernel
theorem dX9_addWay_13 : decode cX9_addWay 13 = .ok (.getfield 54, 3) := by decide +kernel
theorem dX9_addWay_16 : decode cX9_addWay 16 = .ok (.iload_n 1, 1) := by decide +kernel
theorem dX9_addWay_17 : decode cX9_addWay 17 = .ok (.iaload, 1) := by decide +kernel
theorem dX9_addWay_18 : decode cX9_addWay 18 = .ok (.iconst 1, 1) := by decide +kernel
theorem dX9_addWay_19 : decode cX9_addWay 19 = .ok (.isub, 1) := by decide +kernel
theorem dX9_addWay_20 : decode cX9_addWay 20 = .ok (.istore 6, 2) := by decide +kernel
theorem dX9_addWay_22 : decode cX9_addWay 22 = .ok (.iload 6, 2) := by decide +kernel
theorem dX9_addWay_24 : decode cX9_addWay 24 = .ok (.ifCond .ge 68, 3) := by decide +kernel
theorem dX9_addWay_27 : decode cX9_addWay 27 = .ok (.aload_n 0, 1) := by decide +kernel
theorem dX9_addWay_28 : decode cX9_addWay 28 = .ok (.getfield 151, 3) := by decide +kernel
theorem dX9_addWay_31 : decode cX9_addWay 31 = .ok (.bipush 81, 2) := by decide +kernel
theorem dX9_addWay_33 : decode cX9_addWay 33 = .ok (.if_icmp .ge 59, 3) := by decide +kernel
theorem dX9_addWay_36 : decode cX9_addWay 36 = .ok (.aload_n 0, 1) := by decide +kernel
theorem dX9_addWay_37 : decode cX9_addWay 37 = .ok (.getfield 54, 3) := by decide +kernel
theorem dX9_addWay_40 : decode cX9_addWay 40 = .ok (.iload_n 1, 1) := by decide +kernel
theorem dX9_addWay_41 : decode cX9_addWay 41 = .ok (.aload_n 0, 1) := by decide +kernel
theorem dX9_addWay_42 : decode cX9_addWay 42 = .ok (.getfield 151, 3) := by decide +kernel
theorem dX9_addWay_45 : decode cX9_addWay 45 = .ok (.iconst 1, 1) := by decide +kernel
theorem dX9_addWay_46 : decode cX9_addWay 46 = .ok (.iadd, 1) := by decide +kernel
theorem dX9_addWay_47 : decode cX9_addWay 47 = .ok (.iastore, 1) := by decide +kernel
theorem dX9_addWay_48 : decode cX9_addWay 48 = .ok (.aload_n 0, 1) := by decide +kernel
theorem dX9_addWay_49 : decode cX9_addWay 49 = .ok (.getfield 44, 3) := by decide +kernel
theorem dX9_addWay_52 : decode cX9_addWay 52 = .ok (.aload_n 0, 1) := by decide +kernel
theorem dX9_addWay_53 : decode cX9_addWay 53 = .ok (.getfield 151, 3) := by decide +kernel
theorem dX9_addWay_56 : decode cX9_addWay 56 = .ok (.iload_n 1, 1) := by decide +kernel
theorem dX9_addWay_57 : decode cX9_addWay 57 = .ok (.iastore, 1) := by decide +kernel
theorem dX9_addWay_58 : decode cX9_addWay 58 = .ok (.aload_n 0, 1) := by decide +kernel
theorem dX9_addWay_59 : decode cX9_addWay 59 = .ok (.getfield 47, 3) := by decide +kernel
theorem dX9_addWay_62 : decode cX9_addWay 62 = .ok (.aload_n 0, 1) := by decide +kernel
theorem dX9_addWay_63 : decode cX9_addWay 63 = .ok (.getfield 151, 3) := by decide +kernel
theorem dX9_addWay_66 : decode cX9_addWay 66 = .ok (.lload_n 2, 1) := by decide +kernel
theorem dX9_addWay_67 : decode cX9_addWay 67 = .ok (.lastore, 1) := by decide +kernel
theorem dX9_addWay_68 : decode cX9_addWay 68 = .ok (.aload_n 0, 1) := by decide +kernel
theorem dX9_addWay_69 : decode cX9_addWay 69 = .ok (.getfield 51, 3) := by decide +kernel
theorem dX9_addWay_72 : decode cX9_addWay 72 = .ok (.aload_n 0, 1) := by decide +kernel
theorem dX9_addWay_73 : decode cX9_addWay 73 = .ok (.getfield 151, 3) := by decide +kernel
theorem dX9_addWay_76 : decode cX9_addWay 76 = .ok (.lload 4, 2) := by decide +kernel
theorem dX9_addWay_78 : decode cX9_addWay 78 = .ok (.lastore, 1) := by decide +kernel
theorem dX9_addWay_79 : decode cX9_addWay 79 = .ok (.aload_n 0, 1) := by decide +kernel
theorem dX9_addWay_80 : decode cX9_addWay 80 = .ok (.dup, 1) := by decide +kernel
theorem dX9_addWay_81 : decode cX9_addWay 81 = .ok (.getfield 151, 3) := by decide +kernel
theorem dX9_addWay_84 : decode cX9_addWay 84 = .ok (.iconst 1, 1) := by decide +kernel
theorem dX9_addWay_85 : decode cX9_addWay 85 = .ok (.iadd, 1) := by decide +kernel
theorem dX9_addWay_86 : decode cX9_addWay 86 = .ok (.putfield 151, 3) := by decide +kernel
theorem dX9_addWay_89 : decode cX9_addWay 89 = .ok (.goto 103, 3) := by decide +kernel
theorem dX9_addWay_92 : decode cX9_addWay 92 = .ok (.iload 6, 2) := by decide +kernel
theorem dX9_addWay_94 : decode cX9_addWay 94 = .ok (.ifCond .lt 32, 3) := by decide +kernel
theorem dX9_addWay_97 : decode cX9_addWay 97 = .ok (.iload 6, 2) := by decide +kernel
theorem dX9_addWay_99 : decode cX9_addWay 99 = .ok (.bipush 81, 2) := by decide +kernel
theorem dX9_addWay_101 : decode cX9_addWay 101 = .ok (.if_icmp .ge 25, 3) := by decide +kernel
theorem dX9_addWay_104 : decode cX9_addWay 104 = .ok (.aload_n 0, 1) := by decide +kernel
theorem dX9_addWay_105 : decode cX9_addWay 105 = .ok (.getfield 101, 3) := by decide +kernel
theorem dX9_addWay_108 : decode cX9_addWay 108 = .ok (.iconst 3, 1) := by decide +kernel
theorem dX9_addWay_109 : decode cX9_addWay 109 = .ok (.if_icmp .ne 17, 3) := by decide +kernel
theorem dX9_addWay_112 : decode cX9_addWay 112 = .ok (.aload_n 0, 1) := by decide +kernel
theorem dX9_addWay_113 : decode cX9_addWay 113 = .ok (.getfield 47, 3) := by decide +kernel
theorem dX9_addWay_116 : decode cX9_addWay 116 = .ok (.iload 6, 2) := by decide +kernel
theorem dX9_addWay_118 : decode cX9_addWay 118 = .ok (.dup2, 1) := by decide +kernel
theorem dX9_addWay_119 : decode cX9_addWay 119 = .ok (.laload, 1) := by decide +kernel
theorem dX9_addWay_120 : decode cX9_addWay 120 = .ok (.lload_n 2, 1) := by decide +kernel
theorem dX9_addWay_121 : decode cX9_addWay 121 = .ok (.lor, 1) := by decide +kernel
theorem dX9_addWay_122 : decode cX9_addWay 122 = .ok (.lastore, 1) := by decide +kernel
theorem dX9_addWay_123 : decode cX9_addWay 123 = .ok (.goto 69, 3) := by decide +kernel
theorem dX9_addWay_126 : decode cX9_addWay 126 = .ok (.iload 6, 2) := by decide +kernel
theorem dX9_addWay_128 : decode cX9_addWay 128 = .ok (.ifCond .lt 64, 3) := by decide +kernel
theorem dX9_addWay_131 : decode cX9_addWay 131 = .ok (.iload 6, 2) := by decide +kernel
theorem dX9_addWay_133 : decode cX9_addWay 133 = .ok (.bipush 81, 2) := by decide +kernel
theorem dX9_addWay_135 : decode cX9_addWay 135 = .ok (.if_icmp .ge 57, 3) := by decide +kernel
theorem dX9_addWay_138 : decode cX9_addWay 138 = .ok (.lload_n 2, 1) := by decide +kernel
theorem dX9_addWay_139 : decode cX9_addWay 139 = .ok (.aload_n 0, 1) := by decide +kernel
theorem dX9_addWay_140 : decode cX9_addWay 140 = .ok (.getfield 47, 3) := by decide +kernel
theorem dX9_addWay_143 : decode cX9_addWay 143 = .ok (.iload 6, 2) := by decide +kernel
theorem dX9_addWay_145 : decode cX9_addWay 145 = .ok (.laload, 1) := by decide +kernel
theorem dX9_addWay_146 : decode cX9_addWay 146 = .ok (.lcmp, 1) := by decide +kernel
theorem dX9_addWay_147 : decode cX9_addWay 147 = .ok (.ifCond .gt 28, 3) := by decide +kernel
theorem dX9_addWay_150 : decode cX9_addWay 150 = .ok (.lload_n 2, 1) := by decide +kernel
theorem dX9_addWay_151 : decode cX9_addWay 151 = .ok (.aload_n 0, 1) := by decide +kernel
theorem dX9_addWay_152 : decode cX9_addWay 152 = .ok (.getfield 47, 3) := by decide +kernel
theorem dX9_addWay_155 : decode cX9_addWay 155 = .ok (.iload 6, 2) := by decide +kernel
theorem dX9_addWay_157 : decode cX9_addWay 157 = .ok (.laload, 1) := by decide +kernel
theorem dX9_addWay_158 : decode cX9_addWay 158 = .ok (.lcmp, 1) := by decide +kernel
theorem dX9_addWay_159 : decode cX9_addWay 159 = .ok (.ifCond .ne 33, 3) := by decide +kernel
theorem dX9_addWay_162 : decode cX9_addWay 162 = .ok (.lload 4, 2) := by decide +kernel
theorem dX9_addWay_164 : decode cX9_addWay 164 = .ok (.aload_n 0, 1) := by decide +kernel
theorem dX9_addWay_165 : decode cX9_addWay 165 = .ok (.getfield 51, 3) := by decide +kernel
theorem dX9_addWay_168 : decode cX9_addWay 168 = .ok (.iload 6, 2) := by decide +kernel
theorem dX9_addWay_170 : decode cX9_addWay 170 = .ok (.laload, 1) := by decide +kernel
theorem dX9_addWay_171 : decode cX9_addWay 171 = .ok (.lcmp, 1) := by decide +kernel
theorem dX9_addWay_172 : decode cX9_addWay 172 = .ok (.ifCond .le 20, 3) := by decide +kernel
theorem dX9_addWay_175 : decode cX9_addWay 175 = .ok (.aload_n 0, 1) := by decide +kernel
theorem dX9_addWay_176 : decode cX9_addWay 176 = .ok (.getfield 47, 3) := by decide +kernel
theorem dX9_addWay_179 : decode cX9_addWay 179 = .ok (.iload 6, 2) := by decide +kernel
theorem dX9_addWay_181 : decode cX9_addWay 181 = .ok (.lload_n 2, 1) := by decide +kernel
theorem dX9_addWay_182 : decode cX9_addWay 182 = .ok (.lastore, 1) := by decide +kernel
theorem dX9_addWay_183 : decode cX9_addWay 183 = .ok (.aload_n 0, 1) := by decide +kernel
theorem dX9_addWay_184 : decode cX9_addWay 184 = .ok (.getfield 51, 3) := by decide +kernel
theorem dX9_addWay_187 : decode cX9_addWay 187 = .ok (.iload 6, 2) := by decide +kernel
theorem dX9_addWay_189 : decode cX9_addWay 189 = .ok (.lload 4, 2) := by decide +kernel
theorem dX9_addWay_191 : decode cX9_addWay 191 = .ok (.lastore, 1) := by decide +kernel
theorem dX9_addWay_192 : decode cX9_addWay 192 = .ok (.return_, 1) := by decide +kernel
theorem dX9_firstWeight_0 : decode cX9_firstWeight 0 = .ok (.iload_n 1, 1) := by decide +kernel
theorem dX9_firstWeight_1 : decode cX9_firstWeight 1 = .ok (.bipush 13, 2) := by decide +kernel
theorem dX9_firstWeight_3 : decode cX9_firstWeight 3 = .ok (.irem, 1) := by decide +kernel
theorem dX9_firstWeight_4 : decode cX9_firstWeight 4 = .ok (.iconst 1, 1) := by decide +kernel
theorem dX9_firstWeight_5 : decode cX9_firstWeight 5 = .ok (.iadd, 1) := by decide +kernel
theorem dX9_firstWeight_6 : decode cX9_firstWeight 6 = .ok (.istore_n 2, 1) := by decide +kernel
theorem dX9_firstWeight_7 : decode cX9_firstWeight 7 = .ok (.aload_n 0, 1) := by decide +kernel
theorem dX9_firstWeight_8 : decode cX9_firstWeight 8 = .ok (.getfield 173, 3) := by decide +kernel
theorem dX9_firstWeight_11 : decode cX9_firstWeight 11 = .ok (.ifCond .eq 13, 3) := by decide +kernel
theorem dX9_firstWeight_14 : decode cX9_firstWeight 14 = .ok (.bipush 32, 2) := by decide +kernel
theorem dX9_firstWeight_16 : decode cX9_firstWeight 16 = .ok (.iload_n 2, 1) := by decide +kernel
theorem dX9_firstWeight_17 : decode cX9_firstWeight 17 = .ok (.imul, 1) := by decide +kernel
theorem dX9_firstWeight_18 : decode cX9_firstWeight 18 = .ok (.iconst 1, 1) := by decide +kernel
theorem dX9_firstWeight_19 : decode cX9_firstWeight 19 = .ok (.iadd, 1) := by decide +kernel
theorem dX9_firstWeight_20 : decode cX9_firstWeight 20 = .ok (.i2l, 1) := by decide +kernel
theorem dX9_firstWeight_21 : decode cX9_firstWeight 21 = .ok (.goto 9, 3) := by decide +kernel
theorem dX9_firstWeight_24 : decode cX9_firstWeight 24 = .ok (.sipush 512, 3) := by decide +kernel
theorem dX9_firstWeight_27 : decode cX9_firstWeight 27 = .ok (.iload_n 2, 1) := by decide +kernel
theorem dX9_firstWeight_28 : decode cX9_firstWeight 28 = .ok (.iadd, 1) := by decide +kernel
theorem dX9_firstWeight_29 : decode cX9_firstWeight 29 = .ok (.i2l, 1) := by decide +kernel
theorem dX9_firstWeight_30 : decode cX9_firstWeight 30 = .ok (.lstore_n 3, 1) := by decide +kernel
theorem dX9_firstWeight_31 : decode cX9_firstWeight 31 = .ok (.lload_n 3, 1) := by decide +kernel
theorem dX9_firstWeight_32 : decode cX9_firstWeight 32 = .ok (.bipush 48, 2) := by decide +kernel
theorem dX9_firstWeight_34 : decode cX9_firstWeight 34 = .ok (.lshl, 1) := by decide +kernel
theorem dX9_firstWeight_35 : decode cX9_firstWeight 35 = .ok (.iload_n 1, 1) := by decide +kernel
theorem dX9_firstWeight_36 : decode cX9_firstWeight 36 = .ok (.bipush 24, 2) := by decide +kernel
theorem dX9_firstWeight_38 : decode cX9_firstWeight 38 = .ok (.if_icmp .ge 14, 3) := by decide +kernel
theorem dX9_firstWeight_41 : decode cX9_firstWeight 41 = .ok (.lconst 1, 1) := by decide +kernel
theorem dX9_firstWeight_42 : decode cX9_firstWeight 42 = .ok (.iconst 2, 1) := by decide +kernel
theorem dX9_firstWeight_43 : decode cX9_firstWeight 43 = .ok (.bipush 23, 2) := by decide +kernel
theorem dX9_firstWeight_45 : decode cX9_firstWeight 45 = .ok (.iload_n 1, 1) := by decide +kernel
theorem dX9_firstWeight_46 : decode cX9_firstWeight 46 = .ok (.isub, 1) := by decide +kernel
theorem dX9_firstWeight_47 : decode cX9_firstWeight 47 = .ok (.imul, 1) := by decide +kernel
theorem dX9_firstWeight_48 : decode cX9_firstWeight 48 = .ok (.lshl, 1) := by decide +kernel
theorem dX9_firstWeight_49 : decode cX9_firstWeight 49 = .ok (.goto 4, 3) := by decide +kernel
theorem dX9_firstWeight_52 : decode cX9_firstWeight 52 = .ok (.lconst 0, 1) := by decide +kernel
theorem dX9_firstWeight_53 : decode cX9_firstWeight 53 = .ok (.ladd, 1) := by decide +kernel
theorem dX9_firstWeight_54 : decode cX9_firstWeight 54 = .ok (.lreturn, 1) := by decide +kernel
theorem dX9_secondWeight_0 : decode cX9_secondWeight 0 = .ok (.iload_n 1, 1) := by decide +kernel
theorem dX9_secondWeight_1 : decode cX9_secondWeight 1 = .ok (.bipush 24, 2) := by decide +kernel
theorem dX9_secondWeight_3 : decode cX9_secondWeight 3 = .ok (.if_icmp .ge 7, 3) := by decide +kernel
theorem dX9_secondWeight_6 : decode cX9_secondWeight 6 = .ok (.lconst 0, 1) := by decide +kernel
theorem dX9_secondWeight_7 : decode cX9_secondWeight 7 = .ok (.goto 11, 3) := by decide +kernel
theorem dX9_secondWeight_10 : decode cX9_secondWeight 10 = .ok (.lconst 1, 1) := by decide +kernel
theorem dX9_secondWeight_11 : decode cX9_secondWeight 11 = .ok (.iconst 2, 1) := by decide +kernel
theorem dX9_secondWeight_12 : decode cX9_secondWeight 12 = .ok (.bipush 51, 2) := by decide +kernel
theorem dX9_secondWeight_14 : decode cX9_secondWeight 14 = .ok (.iload_n 1, 1) := by decide +kernel
theorem dX9_secondWeight_15 : decode cX9_secondWeight 15 = .ok (.isub, 1) := by decide +kernel
theorem dX9_secondWeight_16 : decode cX9_secondWeight 16 = .ok (.imul, 1) := by decide +kernel
theorem dX9_secondWeight_17 : decode cX9_secondWeight 17 = .ok (.lshl, 1) := by decide +kernel
theorem dX9_secondWeight_18 : decode cX9_secondWeight 18 = .ok (.lreturn, 1) := by decide +kernel
theorem dX9_tilesOf_0 : decode cX9_tilesOf 0 = .ok (.iload 4, 2) := by decide +kernel
theorem dX9_tilesOf_2 : decode cX9_tilesOf 2 = .ok (.bipush 24, 2) := by decide +kernel
theorem dX9_tilesOf_4 : decode cX9_tilesOf 4 = .ok (.if_icmp .ge 15, 3) := by decide +kernel
theorem dX9_tilesOf_7 : decode cX9_tilesOf 7 = .ok (.lload_n 0, 1) := by decide +kernel
theorem dX9_tilesOf_8 : decode cX9_tilesOf 8 = .ok (.iconst 2, 1) := by decide +kernel
theorem dX9_tilesOf_9 : decode cX9_tilesOf 9 = .ok (.bipush 23, 2) := by decide +kernel
theorem dX9_tilesOf_11 : decode cX9_tilesOf 11 = .ok (.iload 4, 2) := by decide +kernel
theorem dX9_tilesOf_13 : decode cX9_tilesOf 13 = .ok (.isub, 1) := by decide +kernel
theorem dX9_tilesOf_14 : decode cX9_tilesOf 14 = .ok (.imul, 1) := by decide +kernel
theorem dX9_tilesOf_15 : decode cX9_tilesOf 15 = .ok (.lushr, 1) := by decide +kernel
theorem dX9_tilesOf_16 : decode cX9_tilesOf 16 = .ok (.goto 12, 3) := by decide +kernel
theorem dX9_tilesOf_19 : decode cX9_tilesOf 19 = .ok (.lload_n 2, 1) := by decide +kernel
theorem dX9_tilesOf_20 : decode cX9_tilesOf 20 = .ok (.iconst 2, 1) := by decide +kernel
theorem dX9_tilesOf_21 : decode cX9_tilesOf 21 = .ok (.bipush 51, 2) := by decide +kernel
theorem dX9_tilesOf_23 : decode cX9_tilesOf 23 = .ok (.iload 4, 2) := by decide +kernel
theorem dX9_tilesOf_25 : decode cX9_tilesOf 25 = .ok (.isub, 1) := by decide +kernel
theorem dX9_tilesOf_26 : decode cX9_tilesOf 26 = .ok (.imul, 1) := by decide +kernel
theorem dX9_tilesOf_27 : decode cX9_tilesOf 27 = .ok (.lushr, 1) := by decide +kernel
theorem dX9_tilesOf_28 : decode cX9_tilesOf 28 = .ok (.lstore 5, 2) := by decide +kernel
theorem dX9_tilesOf_30 : decode cX9_tilesOf 30 = .ok (.lload 5, 2) := by decide +kernel
theorem dX9_tilesOf_32 : decode cX9_tilesOf 32 = .ok (.ldc2_w 177, 3) := by decide +kernel
theorem dX9_tilesOf_35 : decode cX9_tilesOf 35 = .ok (.land, 1) := by decide +kernel
theorem dX9_tilesOf_36 : decode cX9_tilesOf 36 = .ok (.l2i, 1) := by decide +kernel
theorem dX9_tilesOf_37 : decode cX9_tilesOf 37 = .ok (.ireturn, 1) := by decide +kernel
theorem dX9_spread_0 : decode cX9_spread 0 = .ok (.aload_n 0, 1) := by decide +kernel
theorem dX9_spread_1 : decode cX9_spread 1 = .ok (.getfield 37, 3) := by decide +kernel
theorem dX9_spread_4 : decode cX9_spread 4 = .ok (.getfield 117, 3) := by decide +kernel
theorem dX9_spread_7 : decode cX9_spread 7 = .ok (.iload_n 1, 1) := by decide +kernel
theorem dX9_spread_8 : decode cX9_spread 8 = .ok (.iaload, 1) := by decide +kernel
theorem dX9_spread_9 : decode cX9_spread 9 = .ok (.istore_n 2, 1) := by decide +kernel
theorem dX9_spread_10 : decode cX9_spread 10 = .ok (.iconst 0, 1) := by decide +kernel
theorem dX9_spread_11 : decode cX9_spread 11 = .ok (.istore_n 3, 1) := by decide +kernel
theorem dX9_spread_12 : decode cX9_spread 12 = .ok (.iload_n 3, 1) := by decide +kernel
theorem dX9_spread_13 : decode cX9_spread 13 = .ok (.aload_n 0, 1) := by decide +kernel
theorem dX9_spread_14 : decode cX9_spread 14 = .ok (.getfield 151, 3) := by decide +kernel
theorem dX9_spread_17 : decode cX9_spread 17 = .ok (.if_icmp .ge 452, 3) := by decide +kernel
theorem dX9_spread_20 : decode cX9_spread 20 = .ok (.iload_n 3, 1) := by decide +kernel
theorem dX9_spread_21 : decode cX9_spread 21 = .ok (.bipush 81, 2) := by decide +kernel
theorem dX9_spread_23 : decode cX9_spread 23 = .ok (.if_icmp .ge 446, 3) := by decide +kernel
theorem dX9_spread_26 : decode cX9_spread 26 = .ok (.aload_n 0, 1) := by decide +kernel
theorem dX9_spread_27 : decode cX9_spread 27 = .ok (.getfield 44, 3) := by decide +kernel
theorem dX9_spread_30 : decode cX9_spread 30 = .ok (.iload_n 3, 1) := by decide +kernel
theorem dX9_spread_31 : decode cX9_spread 31 = .ok (.iaload, 1) := by decide +kernel
theorem dX9_spread_32 : decode cX9_spread 32 = .ok (.istore 4, 2) := by decide +kernel
theorem dX9_spread_34 : decode cX9_spread 34 = .ok (.iload_n 2, 1) := by decide +kernel
theorem dX9_spread_35 : decode cX9_spread 35 = .ok (.bipush 15, 2) := by decide +kernel
theorem dX9_spread_37 : decode cX9_spread 37 = .ok (.iand, 1) := by decide +kernel
theorem dX9_spread_38 : decode cX9_spread 38 = .ok (.iconst 4, 1) := by decide +kernel
theorem dX9_spread_39 : decode cX9_spread 39 = .ok (.ishl, 1) := by decide +kernel
theorem dX9_spread_40 : decode cX9_spread 40 = .ok (.iload 4, 2) := by decide +kernel
theorem dX9_spread_42 : decode cX9_spread 42 = .ok (.iconst 3, 1) := by decide +kernel
theorem dX9_spread_43 : decode cX9_spread 43 = .ok (.iand, 1) := by decide +kernel
theorem dX9_spread_44 : decode cX9_spread 44 = .ok (.iconst 2, 1) := by decide +kernel
theorem dX9_spread_45 : decode cX9_spread 45 = .ok (.ishl, 1) := by decide +kernel
theorem dX9_spread_46 : decode cX9_spread 46 = .ok (.ior, 1) := by decide +kernel
theorem dX9_spread_47 : decode cX9_spread 47 = .ok (.istore 5, 2) := by decide +kernel
theorem dX9_spread_49 : decode cX9_spread 49 = .ok (.iload_n 2, 1) := by decide +kernel
theorem dX9_spread_50 : decode cX9_spread 50 = .ok (.iconst 4, 1) := by decide +kernel
theorem dX9_spread_51 : decode cX9_spread 51 = .ok (.ishr, 1) := by decide +kernel
theorem dX9_spread_52 : decode cX9_spread 52 = .ok (.bipush 15, 2) := by decide +kernel
theorem dX9_spread_54 : decode cX9_spread 54 = .ok (.iand, 1) := by decide +kernel
theorem dX9_spread_55 : decode cX9_spread 55 = .ok (.iconst 4, 1) := by decide +kernel
theorem dX9_spread_56 : decode cX9_spread 56 = .ok (.ishl, 1) := by decide +kernel
theorem dX9_spread_57 : decode cX9_spread 57 = .ok (.iload 4, 2) := by decide +kernel
theorem dX9_spread_59 : decode cX9_spread 59 = .ok (.iconst 4, 1) := by decide +kernel
theorem dX9_spread_60 : decode cX9_spread 60 = .ok (.ishr, 1) := by decide +kernel
theorem dX9_spread_61 : decode cX9_spread 61 = .ok (.iconst 3, 1) := by decide +kernel
theorem dX9_spread_62 : decode cX9_spread 62 = .ok (.iand, 1) := by decide +kernel
theorem dX9_spread_63 : decode cX9_spread 63 = .ok (.iconst 2, 1) := by decide +kernel
theorem dX9_spread_64 : decode cX9_spread 64 = .ok (.ishl, 1) := by decide +kernel
theorem dX9_spread_65 : decode cX9_spread 65 = .ok (.ior, 1) := by decide +kernel
theorem dX9_spread_66 : decode cX9_spread 66 = .ok (.istore 6, 2) := by decide +kernel
theorem dX9_spread_68 : decode cX9_spread 68 = .ok (.iload_n 2, 1) := by decide +kernel
theorem dX9_spread_69 : decode cX9_spread 69 = .ok (.bipush 8, 2) := by decide +kernel
theorem dX9_spread_71 : decode cX9_spread 71 = .ok (.ishr, 1) := by decide +kernel
theorem dX9_spread_72 : decode cX9_spread 72 = .ok (.bipush 15, 2) := by decide +kernel
theorem dX9_spread_74 : decode cX9_spread 74 = .ok (.iand, 1) := by decide +kernel
theorem dX9_spread_75 : decode cX9_spread 75 = .ok (.iconst 4, 1) := by decide +kernel
theorem dX9_spread_76 : decode cX9_spread 76 = .ok (.ishl, 1) := by decide +kernel
theorem dX9_spread_77 : decode cX9_spread 77 = .ok (.iload 4, 2) := by decide +kernel
theorem dX9_spread_79 : decode cX9_spread 79 = .ok (.bipush 8, 2) := by decide +kernel
theorem dX9_spread_81 : decode cX9_spread 81 = .ok (.ishr, 1) := by decide +kernel
theorem dX9_spread_82 : decode cX9_spread 82 = .ok (.iconst 3, 1) := by decide +kernel
theorem dX9_spread_83 : decode cX9_spread 83 = .ok (.iand, 1) := by decide +kernel
theorem dX9_spread_84 : decode cX9_spread 84 = .ok (.iconst 2, 1) := by decide +kernel
theorem dX9_spread_85 : decode cX9_spread 85 = .ok (.ishl, 1) := by decide +kernel
theorem dX9_spread_86 : decode cX9_spread 86 = .ok (.ior, 1) := by decide +kernel
theorem dX9_spread_87 : decode cX9_spread 87 = .ok (.istore 7, 2) := by decide +kernel
theorem dX9_spread_89 : decode cX9_spread 89 = .ok (.iload_n 2, 1) := by decide +kernel
theorem dX9_spread_90 : decode cX9_spread 90 = .ok (.bipush 12, 2) := by decide +kernel
theorem dX9_spread_92 : decode cX9_spread 92 = .ok (.ishr, 1) := by decide +kernel
theorem dX9_spread_93 : decode cX9_spread 93 = .ok (.bipush 15, 2) := by decide +kernel
theorem dX9_spread_95 : decode cX9_spread 95 = .ok (.iand, 1) := by decide +kernel
theorem dX9_spread_96 : decode cX9_spread 96 = .ok (.iconst 4, 1) := by decide +kernel
theorem dX9_spread_97 : decode cX9_spread 97 = .ok (.ishl, 1) := by decide +kernel
theorem dX9_spread_98 : decode cX9_spread 98 = .ok (.iload 4, 2) := by decide +kernel
theorem dX9_spread_100 : decode cX9_spread 100 = .ok (.bipush 12, 2) := by decide +kernel
theorem dX9_spread_102 : decode cX9_spread 102 = .ok (.ishr, 1) := by decide +kernel
theorem dX9_spread_103 : decode cX9_spread 103 = .ok (.iconst 3, 1) := by decide +kernel
theorem dX9_spread_104 : decode cX9_spread 104 = .ok (.iand, 1) := by decide +kernel
theorem dX9_spread_105 : decode cX9_spread 105 = .ok (.iconst 2, 1) := by decide +kernel
theorem dX9_spread_106 : decode cX9_spread 106 = .ok (.ishl, 1) := by decide +kernel
theorem dX9_spread_107 : decode cX9_spread 107 = .ok (.ior, 1) := by decide +kernel
theorem dX9_spread_108 : decode cX9_spread 108 = .ok (.istore 8, 2) := by decide +kernel
theorem dX9_spread_110 : decode cX9_spread 110 = .ok (.aload_n 0, 1) := by decide +kernel
theorem dX9_spread_111 : decode cX9_spread 111 = .ok (.getfield 69, 3) := by decide +kernel
theorem dX9_spread_114 : decode cX9_spread 114 = .ok (.iload 5, 2) := by decide +kernel
theorem dX9_spread_116 : decode cX9_spread 116 = .ok (.iaload, 1) := by decide +kernel
theorem dX9_spread_117 : decode cX9_spread 117 = .ok (.ifCond .eq 346, 3) := by decide +kernel
theorem dX9_spread_120 : decode cX9_spread 120 = .ok (.aload_n 0, 1) := by decide +kernel
theorem dX9_spread_121 : decode cX9_spread 121 = .ok (.getfield 69, 3) := by decide +kernel
theorem dX9_spread_124 : decode cX9_spread 124 = .ok (.iload 6, 2) := by decide +kernel
theorem dX9_spread_126 : decode cX9_spread 126 = .ok (.iaload, 1) := by decide +kernel
theorem dX9_spread_127 : decode cX9_spread 127 = .ok (.ifCond .eq 336, 3) := by decide +kernel
theorem dX9_spread_130 : decode cX9_spread 130 = .ok (.aload_n 0, 1) := by decide +kernel
theorem dX9_spread_131 : decode cX9_spread 131 = .ok (.getfield 69, 3) := by decide +kernel
theorem dX9_spread_134 : decode cX9_spread 134 = .ok (.iload 7, 2) := by decide +kernel
theorem dX9_spread_136 : decode cX9_spread 136 = .ok (.iaload, 1) := by decide +kernel
theorem dX9_spread_137 : decode cX9_spread 137 = .ok (.ifCond .eq 326, 3) := by decide +kernel
theorem dX9_spread_140 : decode cX9_spread 140 = .ok (.aload_n 0, 1) := by decide +kernel
theorem dX9_spread_141 : decode cX9_spread 141 = .ok (.getfield 69, 3) := by decide +kernel
theorem dX9_spread_144 : decode cX9_spread 144 = .ok (.iload 8, 2) := by decide +kernel
theorem dX9_spread_146 : decode cX9_spread 146 = .ok (.iaload, 1) := by decide +kernel
theorem dX9_spread_147 : decode cX9_spread 147 = .ok (.ifCond .ne 6, 3) := by decide +kernel
theorem dX9_spread_150 : decode cX9_spread 150 = .ok (.goto 313, 3) := by decide +kernel
theorem dX9_spread_153 : decode cX9_spread 153 = .ok (.aload_n 0, 1) := by decide +kernel
theorem dX9_spread_154 : decode cX9_spread 154 = .ok (.getfield 41, 3) := by decide +kernel
theorem dX9_spread_157 : decode cX9_spread 157 = .ok (.getfield 114, 3) := by decide +kernel
theorem dX9_spread_160 : decode cX9_spread 160 = .ok (.bipush 81, 2) := by decide +kernel
theorem dX9_spread_162 : decode cX9_spread 162 = .ok (.iadd, 1) := by decide +kernel
theorem dX9_spread_163 : decode cX9_spread 163 = .ok (.aload_n 0, 1) := by decide +kernel
theorem dX9_spread_164 : decode cX9_spread 164 = .ok (.getfield 41, 3) := by decide +kernel
theorem dX9_spread_167 : decode cX9_spread 167 = .ok (.getfield 117, 3) := by decide +kernel
theorem dX9_spread_170 : decode cX9_spread 170 = .ok (.arraylength, 1) := by decide +kernel
theorem dX9_spread_171 : decode cX9_spread 171 = .ok (.if_icmp .le 10, 3) := by decide +kernel
theorem dX9_spread_174 : decode cX9_spread 174 = .ok (.aload_n 0, 1) := by decide +kernel
theorem dX9_spread_175 : decode cX9_spread 175 = .ok (.getfield 41, 3) := by decide +kernel
theorem dX9_spread_178 : decode cX9_spread 178 = .ok (.invokevirtual 179, 3) := by decide +kernel
theorem dX9_spread_181 : decode cX9_spread 181 = .ok (.iload 5, 2) := by decide +kernel
theorem dX9_spread_183 : decode cX9_spread 183 = .ok (.istore 9, 2) := by decide +kernel
theorem dX9_spread_185 : decode cX9_spread 185 = .ok (.iload 9, 2) := by decide +kernel
theorem dX9_spread_187 : decode cX9_spread 187 = .ok (.iload 5, 2) := by decide +kernel
theorem dX9_spread_189 : decode cX9_spread 189 = .ok (.iconst 3, 1) := by decide +kernel
theorem dX9_spread_190 : decode cX9_spread 190 = .ok (.iadd, 1) := by decide +kernel
theorem dX9_spread_191 : decode cX9_spread 191 = .ok (.if_icmp .ge 272, 3) := by decide +kernel
theorem dX9_spread_194 : decode cX9_spread 194 = .ok (.aload_n 0, 1) := by decide +kernel
theorem dX9_spread_195 : decode cX9_spread 195 = .ok (.getfield 69, 3) := by decide +kernel
theorem dX9_spread_198 : decode cX9_spread 198 = .ok (.iload 9, 2) := by decide +kernel
theorem dX9_spread_200 : decode cX9_spread 200 = .ok (.iaload, 1) := by decide +kernel
theorem dX9_spread_201 : decode cX9_spread 201 = .ok (.ifCond .eq 262, 3) := by decide +kernel
theorem dX9_spread_204 : decode cX9_spread 204 = .ok (.aload_n 0, 1) := by decide +kernel
theorem dX9_spread_205 : decode cX9_spread 205 = .ok (.getfield 69, 3) := by decide +kernel
theorem dX9_spread_208 : decode cX9_spread 208 = .ok (.iload 9, 2) := by decide +kernel
theorem dX9_spread_210 : decode cX9_spread 210 = .ok (.iaload, 1) := by decide +kernel
theorem dX9_spread_211 : decode cX9_spread 211 = .ok (.istore 10, 2) := by decide +kernel
theorem dX9_spread_213 : decode cX9_spread 213 = .ok (.aload_n 0, 1) := by decide +kernel
theorem dX9_spread_214 : decode cX9_spread 214 = .ok (.getfield 57, 3) := by decide +kernel
theorem dX9_spread_217 : decode cX9_spread 217 = .ok (.iconst 0, 1) := by decide +kernel
theorem dX9_spread_218 : decode cX9_spread 218 = .ok (.iaload, 1) := by decide +kernel
theorem dX9_spread_219 : decode cX9_spread 219 = .ok (.iload 10, 2) := by decide +kernel
theorem dX9_spread_221 : decode cX9_spread 221 = .ok (.bipush 15, 2) := by decide +kernel
theorem dX9_spread_223 : decode cX9_spread 223 = .ok (.iand, 1) := by decide +kernel
theorem dX9_spread_224 : decode cX9_spread 224 = .ok (.ishr, 1) := by decide +kernel
theorem dX9_spread_225 : decode cX9_spread 225 = .ok (.iconst 1, 1) := by decide +kernel
theorem dX9_spread_226 : decode cX9_spread 226 = .ok (.iand, 1) := by decide +kernel
theorem dX9_spread_227 : decode cX9_spread 227 = .ok (.ifCond .ne 6, 3) := by decide +kernel
theorem dX9_spread_230 : decode cX9_spread 230 = .ok (.goto 227, 3) := by decide +kernel
theorem dX9_spread_233 : decode cX9_spread 233 = .ok (.iload 6, 2) := by decide +kernel
theorem dX9_spread_235 : decode cX9_spread 235 = .ok (.istore 11, 2) := by decide +kernel
theorem dX9_spread_237 : decode cX9_spread 237 = .ok (.iload 11, 2) := by decide +kernel
theorem dX9_spread_239 : decode cX9_spread 239 = .ok (.iload 6, 2) := by decide +kernel
theorem dX9_spread_241 : decode cX9_spread 241 = .ok (.iconst 3, 1) := by decide +kernel
theorem dX9_spread_242 : decode cX9_spread 242 = .ok (.iadd, 1) := by decide +kernel
theorem dX9_spread_243 : decode cX9_spread 243 = .ok (.if_icmp .ge 214, 3) := by decide +kernel
theorem dX9_spread_246 : decode cX9_spread 246 = .ok (.aload_n 0, 1) := by decide +kernel
theorem dX9_spread_247 : decode cX9_spread 247 = .ok (.getfield 69, 3) := by decide +kernel
theorem dX9_spread_250 : decode cX9_spread 250 = .ok (.iload 11, 2) := by decide +kernel
theorem dX9_spread_252 : decode cX9_spread 252 = .ok (.iaload, 1) := by decide +kernel
theorem dX9_spread_253 : decode cX9_spread 253 = .ok (.ifCond .eq 204, 3) := by decide +kernel
theorem dX9_spread_256 : decode cX9_spread 256 = .ok (.aload_n 0, 1) := by decide +kernel
theorem dX9_spread_257 : decode cX9_spread 257 = .ok (.getfield 69, 3) := by decide +kernel
theorem dX9_spread_260 : decode cX9_spread 260 = .ok (.iload 11, 2) := by decide +kernel
theorem dX9_spread_262 : decode cX9_spread 262 = .ok (.iaload, 1) := by decide +kernel
theorem dX9_spread_263 : decode cX9_spread 263 = .ok (.istore 12, 2) := by decide +kernel
theorem dX9_spread_265 : decode cX9_spread 265 = .ok (.aload_n 0, 1) := by decide +kernel
theorem dX9_spread_266 : decode cX9_spread 266 = .ok (.getfield 57, 3) := by decide +kernel
theorem dX9_spread_269 : decode cX9_spread 269 = .ok (.iconst 1, 1) := by decide +kernel
theorem dX9_spread_270 : decode cX9_spread 270 = .ok (.iaload, 1) := by decide +kernel
theorem dX9_spread_271 : decode cX9_spread 271 = .ok (.iload 12, 2) := by decide +kernel
theorem dX9_spread_273 : decode cX9_spread 273 = .ok (.bipush 15, 2) := by decide +kernel
theorem dX9_spread_275 : decode cX9_spread 275 = .ok (.iand, 1) := by decide +kernel
theorem dX9_spread_276 : decode cX9_spread 276 = .ok (.ishr, 1) := by decide +kernel
theorem dX9_spread_277 : decode cX9_spread 277 = .ok (.iconst 1, 1) := by decide +kernel
theorem dX9_spread_278 : decode cX9_spread 278 = .ok (.iand, 1) := by decide +kernel
theorem dX9_spread_279 : decode cX9_spread 279 = .ok (.ifCond .ne 6, 3) := by decide +kernel
theorem dX9_spread_282 : decode cX9_spread 282 = .ok (.goto 169, 3) := by decide +kernel
theorem dX9_spread_285 : decode cX9_spread 285 = .ok (.iload 7, 2) := by decide +kernel
theorem dX9_spread_287 : decode cX9_spread 287 = .ok (.istore 13, 2) := by decide +kernel
theorem dX9_spread_289 : decode cX9_spread 289 = .ok (.iload 13, 2) := by decide +kernel
theorem dX9_spread_291 : decode cX9_spread 291 = .ok (.iload 7, 2) := by decide +kernel
theorem dX9_spread_293 : decode cX9_spread 293 = .ok (.iconst 3, 1) := by decide +kernel
theorem dX9_spread_294 : decode cX9_spread 294 = .ok (.iadd, 1) := by decide +kernel
theorem dX9_spread_295 : decode cX9_spread 295 = .ok (.if_icmp .ge 156, 3) := by decide +kernel
theorem dX9_spread_298 : decode cX9_spread 298 = .ok (.aload_n 0, 1) := by decide +kernel
theorem dX9_spread_299 : decode cX9_spread 299 = .ok (.getfield 69, 3) := by decide +kernel
theorem dX9_spread_302 : decode cX9_spread 302 = .ok (.iload 13, 2) := by decide +kernel
theorem dX9_spread_304 : decode cX9_spread 304 = .ok (.iaload, 1) := by decide +kernel
theorem dX9_spread_305 : decode cX9_spread 305 = .ok (.ifCond .eq 146, 3) := by decide +kernel
theorem dX9_spread_308 : decode cX9_spread 308 = .ok (.aload_n 0, 1) := by decide +kernel
theorem dX9_spread_309 : decode cX9_spread 309 = .ok (.getfield 69, 3) := by decide +kernel
theorem dX9_spread_312 : decode cX9_spread 312 = .ok (.iload 13, 2) := by decide +kernel
theorem dX9_spread_314 : decode cX9_spread 314 = .ok (.iaload, 1) := by decide +kernel
theorem dX9_spread_315 : decode cX9_spread 315 = .ok (.istore 14, 2) := by decide +kernel
theorem dX9_spread_317 : decode cX9_spread 317 = .ok (.aload_n 0, 1) := by decide +kernel
theorem dX9_spread_318 : decode cX9_spread 318 = .ok (.getfield 57, 3) := by decide +kernel
theorem dX9_spread_321 : decode cX9_spread 321 = .ok (.iconst 2, 1) := by decide +kernel
theorem dX9_spread_322 : decode cX9_spread 322 = .ok (.iaload, 1) := by decide +kernel
theorem dX9_spread_323 : decode cX9_spread 323 = .ok (.iload 14, 2) := by decide +kernel
theorem dX9_spread_325 : decode cX9_spread 325 = .ok (.bipush 15, 2) := by decide +kernel
theorem dX9_spread_327 : decode cX9_spread 327 = .ok (.iand, 1) := by decide +kernel
theorem dX9_spread_328 : decode cX9_spread 328 = .ok (.ishr, 1) := by decide +kernel
theorem dX9_spread_329 : decode cX9_spread 329 = .ok (.iconst 1, 1) := by decide +kernel
theorem dX9_spread_330 : decode cX9_spread 330 = .ok (.iand, 1) := by decide +kernel
theorem dX9_spread_331 : decode cX9_spread 331 = .ok (.ifCond .ne 6, 3) := by decide +kernel
theorem dX9_spread_334 : decode cX9_spread 334 = .ok (.goto 111, 3) := by decide +kernel
theorem dX9_spread_337 : decode cX9_spread 337 = .ok (.iload 8, 2) := by decide +kernel
theorem dX9_spread_339 : decode cX9_spread 339 = .ok (.istore 15, 2) := by decide +kernel
theorem dX9_spread_341 : decode cX9_spread 341 = .ok (.iload 15, 2) := by decide +kernel
theorem dX9_spread_343 : decode cX9_spread 343 = .ok (.iload 8, 2) := by decide +kernel
theorem dX9_spread_345 : decode cX9_spread 345 = .ok (.iconst 3, 1) := by decide +kernel
theorem dX9_spread_346 : decode cX9_spread 346 = .ok (.iadd, 1) := by decide +kernel
theorem dX9_spread_347 : decode cX9_spread 347 = .ok (.if_icmp .ge 98, 3) := by decide +kernel
theorem dX9_spread_350 : decode cX9_spread 350 = .ok (.aload_n 0, 1) := by decide +kernel
theorem dX9_spread_351 : decode cX9_spread 351 = .ok (.getfield 69, 3) := by decide +kernel
theorem dX9_spread_354 : decode cX9_spread 354 = .ok (.iload 15, 2) := by decide +kernel
theorem dX9_spread_356 : decode cX9_spread 356 = .ok (.iaload, 1) := by decide +kernel
theorem dX9_spread_357 : decode cX9_spread 357 = .ok (.ifCond .eq 88, 3) := by decide +kernel
theorem dX9_spread_360 : decode cX9_spread 360 = .ok (.aload_n 0, 1) := by decide +kernel
theorem dX9_spread_361 : decode cX9_spread 361 = .ok (.getfield 69, 3) := by decide +kernel
theorem dX9_spread_364 : decode cX9_spread 364 = .ok (.iload 15, 2) := by decide +kernel
theorem dX9_spread_366 : decode cX9_spread 366 = .ok (.iaload, 1) := by decide +kernel
theorem dX9_spread_367 : decode cX9_spread 367 = .ok (.istore 16, 2) := by decide +kernel
theorem dX9_spread_369 : decode cX9_spread 369 = .ok (.aload_n 0, 1) := by decide +kernel
theorem dX9_spread_370 : decode cX9_spread 370 = .ok (.getfield 57, 3) := by decide +kernel
theorem dX9_spread_373 : decode cX9_spread 373 = .ok (.iconst 3, 1) := by decide +kernel
theorem dX9_spread_374 : decode cX9_spread 374 = .ok (.iaload, 1) := by decide +kernel
theorem dX9_spread_375 : decode cX9_spread 375 = .ok (.iload 16, 2) := by decide +kernel
theorem dX9_spread_377 : decode cX9_spread 377 = .ok (.bipush 15, 2) := by decide +kernel
theorem dX9_spread_379 : decode cX9_spread 379 = .ok (.iand, 1) := by decide +kernel
theorem dX9_spread_380 : decode cX9_spread 380 = .ok (.ishr, 1) := by decide +kernel
theorem dX9_spread_381 : decode cX9_spread 381 = .ok (.iconst 1, 1) := by decide +kernel
theorem dX9_spread_382 : decode cX9_spread 382 = .ok (.iand, 1) := by decide +kernel
theorem dX9_spread_383 : decode cX9_spread 383 = .ok (.iconst 1, 1) := by decide +kernel
theorem dX9_spread_384 : decode cX9_spread 384 = .ok (.if_icmp .ne 55, 3) := by decide +kernel
theorem dX9_spread_387 : decode cX9_spread 387 = .ok (.iload 10, 2) := by decide +kernel
theorem dX9_spread_389 : decode cX9_spread 389 = .ok (.bipush 15, 2) := by decide +kernel
theorem dX9_spread_391 : decode cX9_spread 391 = .ok (.iand, 1) := by decide +kernel
theorem dX9_spread_392 : decode cX9_spread 392 = .ok (.iload 12, 2) := by decide +kernel
theorem dX9_spread_394 : decode cX9_spread 394 = .ok (.bipush 15, 2) := by decide +kernel
theorem dX9_spread_396 : decode cX9_spread 396 = .ok (.iand, 1) := by decide +kernel
theorem dX9_spread_397 : decode cX9_spread 397 = .ok (.iconst 4, 1) := by decide +kernel
theorem dX9_spread_398 : decode cX9_spread 398 = .ok (.ishl, 1) := by decide +kernel
theorem dX9_spread_399 : decode cX9_spread 399 = .ok (.ior, 1) := by decide +kernel
theorem dX9_spread_400 : decode cX9_spread 400 = .ok (.iload 14, 2) := by decide +kernel
theorem dX9_spread_402 : decode cX9_spread 402 = .ok (.bipush 15, 2) := by decide +kernel
theorem dX9_spread_404 : decode cX9_spread 404 = .ok (.iand, 1) := by decide +kernel
theorem dX9_spread_405 : decode cX9_spread 405 = .ok (.bipush 8, 2) := by decide +kernel
theorem dX9_spread_407 : decode cX9_spread 407 = .ok (.ishl, 1) := by decide +kernel
theorem dX9_spread_408 : decode cX9_spread 408 = .ok (.ior, 1) := by decide +kernel
theorem dX9_spread_409 : decode cX9_spread 409 = .ok (.iload 16, 2) := by decide +kernel
theorem dX9_spread_411 : decode cX9_spread 411 = .ok (.bipush 15, 2) := by decide +kernel
theorem dX9_spread_413 : decode cX9_spread 413 = .ok (.iand, 1) := by decide +kernel
theorem dX9_spread_414 : decode cX9_spread 414 = .ok (.bipush 12, 2) := by decide +kernel
theorem dX9_spread_416 : decode cX9_spread 416 = .ok (.ishl, 1) := by decide +kernel
theorem dX9_spread_417 : decode cX9_spread 417 = .ok (.ior, 1) := by decide +kernel
theorem dX9_spread_418 : decode cX9_spread 418 = .ok (.istore 17, 2) := by decide +kernel
theorem dX9_spread_420 : decode cX9_spread 420 = .ok (.aload_n 0, 1) := by decide +kernel
theorem dX9_spread_421 : decode cX9_spread 421 = .ok (.iload_n 1, 1) := by decide +kernel
theorem dX9_spread_422 : decode cX9_spread 422 = .ok (.iload_n 3, 1) := by decide +kernel
theorem dX9_spread_423 : decode cX9_spread 423 = .ok (.iload 17, 2) := by decide +kernel
theorem dX9_spread_425 : decode cX9_spread 425 = .ok (.iload 10, 2) := by decide +kernel
theorem dX9_spread_427 : decode cX9_spread 427 = .ok (.iload 12, 2) := by decide +kernel
theorem dX9_spread_429 : decode cX9_spread 429 = .ok (.iadd, 1) := by decide +kernel
theorem dX9_spread_430 : decode cX9_spread 430 = .ok (.iload 14, 2) := by decide +kernel
theorem dX9_spread_432 : decode cX9_spread 432 = .ok (.iadd, 1) := by decide +kernel
theorem dX9_spread_433 : decode cX9_spread 433 = .ok (.iload 16, 2) := by decide +kernel
theorem dX9_spread_435 : decode cX9_spread 435 = .ok (.iadd, 1) := by decide +kernel
theorem dX9_spread_436 : decode cX9_spread 436 = .ok (.invokevirtual 182, 3) := by decide +kernel
theorem dX9_spread_439 : decode cX9_spread 439 = .ok (.iinc 15 1, 3) := by decide +kernel
theorem dX9_spread_442 : decode cX9_spread 442 = .ok (.goto (-101), 3) := by decide +kernel
theorem dX9_spread_445 : decode cX9_spread 445 = .ok (.iinc 13 1, 3) := by decide +kernel
theorem dX9_spread_448 : decode cX9_spread 448 = .ok (.goto (-159), 3) := by decide +kernel
theorem dX9_spread_451 : decode cX9_spread 451 = .ok (.iinc 11 1, 3) := by decide +kernel
theorem dX9_spread_454 : decode cX9_spread 454 = .ok (.goto (-217), 3) := by decide +kernel
theorem dX9_spread_457 : decode cX9_spread 457 = .ok (.iinc 9 1, 3) := by decide +kernel
theorem dX9_spread_460 : decode cX9_spread 460 = .ok (.goto (-275), 3) := by decide +kernel
theorem dX9_spread_463 : decode cX9_spread 463 = .ok (.iinc 3 1, 3) := by decide +kernel
theorem dX9_spread_466 : decode cX9_spread 466 = .ok (.goto (-454), 3) := by decide +kernel
theorem dX9_spread_469 : decode cX9_spread 469 = .ok (.return_, 1) := by decide +kernel
theorem dX9_put_0 : decode cX9_put 0 = .ok (.aload_n 0, 1) := by decide +kernel
theorem dX9_put_1 : decode cX9_put 1 = .ok (.getfield 37, 3) := by decide +kernel
theorem dX9_put_4 : decode cX9_put 4 = .ok (.getfield 120, 3) := by decide +kernel
theorem dX9_put_7 : decode cX9_put 7 = .ok (.iload_n 1, 1) := by decide +kernel
theorem dX9_put_8 : decode cX9_put 8 = .ok (.laload, 1) := by decide +kernel
theorem dX9_put_9 : decode cX9_put 9 = .ok (.lstore 5, 2) := by decide +kernel
theorem dX9_put_11 : decode cX9_put 11 = .ok (.aload_n 0, 1) := by decide +kernel
theorem dX9_put_12 : decode cX9_put 12 = .ok (.getfield 37, 3) := by decide +kernel
theorem dX9_put_15 : decode cX9_put 15 = .ok (.getfield 125, 3) := by decide +kernel
theorem dX9_put_18 : decode cX9_put 18 = .ok (.iload_n 1, 1) := by decide +kernel
theorem dX9_put_19 : decode cX9_put 19 = .ok (.laload, 1) := by decide +kernel
theorem dX9_put_20 : decode cX9_put 20 = .ok (.lstore 7, 2) := by decide +kernel
theorem dX9_put_22 : decode cX9_put 22 = .ok (.aload_n 0, 1) := by decide +kernel
theorem dX9_put_23 : decode cX9_put 23 = .ok (.getfield 101, 3) := by decide +kernel
theorem dX9_put_26 : decode cX9_put 26 = .ok (.iconst 4, 1) := by decide +kernel
theorem dX9_put_27 : decode cX9_put 27 = .ok (.if_icmp .ne 28, 3) := by decide +kernel
theorem dX9_put_30 : decode cX9_put 30 = .ok (.lload 5, 2) := by decide +kernel
theorem dX9_put_32 : decode cX9_put 32 = .ok (.aload_n 0, 1) := by decide +kernel
theorem dX9_put_33 : decode cX9_put 33 = .ok (.getfield 47, 3) := by decide +kernel
theorem dX9_put_36 : decode cX9_put 36 = .ok (.iload_n 2, 1) := by decide +kernel
theorem dX9_put_37 : decode cX9_put 37 = .ok (.laload, 1) := by decide +kernel
theorem dX9_put_38 : decode cX9_put 38 = .ok (.ladd, 1) := by decide +kernel
theorem dX9_put_39 : decode cX9_put 39 = .ok (.lstore 5, 2) := by decide +kernel
theorem dX9_put_41 : decode cX9_put 41 = .ok (.lload 7, 2) := by decide +kernel
theorem dX9_put_43 : decode cX9_put 43 = .ok (.aload_n 0, 1) := by decide +kernel
theorem dX9_put_44 : decode cX9_put 44 = .ok (.getfield 51, 3) := by decide +kernel
theorem dX9_put_47 : decode cX9_put 47 = .ok (.iload_n 2, 1) := by decide +kernel
theorem dX9_put_48 : decode cX9_put 48 = .ok (.laload, 1) := by decide +kernel
theorem dX9_put_49 : decode cX9_put 49 = .ok (.ladd, 1) := by decide +kernel
theorem dX9_put_50 : decode cX9_put 50 = .ok (.lstore 7, 2) := by decide +kernel
theorem dX9_put_52 : decode cX9_put 52 = .ok (.goto 87, 3) := by decide +kernel
theorem dX9_put_55 : decode cX9_put 55 = .ok (.aload_n 0, 1) := by decide +kernel
theorem dX9_put_56 : decode cX9_put 56 = .ok (.getfield 101, 3) := by decide +kernel
theorem dX9_put_59 : decode cX9_put 59 = .ok (.iconst 2, 1) := by decide +kernel
theorem dX9_put_60 : decode cX9_put 60 = .ok (.if_icmp .ne 48, 3) := by decide +kernel
theorem dX9_put_63 : decode cX9_put 63 = .ok (.lload 5, 2) := by decide +kernel
theorem dX9_put_65 : decode cX9_put 65 = .ok (.iload 4, 2) := by decide +kernel
theorem dX9_put_67 : decode cX9_put 67 = .ok (.bipush 8, 2) := by decide +kernel
theorem dX9_put_69 : decode cX9_put 69 = .ok (.ishr, 1) := by decide +kernel
theorem dX9_put_70 : decode cX9_put 70 = .ok (.bipush 7, 2) := by decide +kernel
theorem dX9_put_72 : decode cX9_put 72 = .ok (.iand, 1) := by decide +kernel
theorem dX9_put_73 : decode cX9_put 73 = .ok (.lshl, 1) := by decide +kernel
theorem dX9_put_74 : decode cX9_put 74 = .ok (.ldc2_w 186, 3) := by decide +kernel
theorem dX9_put_77 : decode cX9_put 77 = .ok (.lrem, 1) := by decide +kernel
theorem dX9_put_78 : decode cX9_put 78 = .ok (.lstore 5, 2) := by decide +kernel
theorem dX9_put_80 : decode cX9_put 80 = .ok (.lload 7, 2) := by decide +kernel
theorem dX9_put_82 : decode cX9_put 82 = .ok (.ldc2_w 188, 3) := by decide +kernel
theorem dX9_put_85 : decode cX9_put 85 = .ok (.iload 4, 2) := by decide +kernel
theorem dX9_put_87 : decode cX9_put 87 = .ok (.bipush 16, 2) := by decide +kernel
theorem dX9_put_89 : decode cX9_put 89 = .ok (.ishr, 1) := by decide +kernel
theorem dX9_put_90 : decode cX9_put 90 = .ok (.bipush 15, 2) := by decide +kernel
theorem dX9_put_92 : decode cX9_put 92 = .ok (.iand, 1) := by decide +kernel
theorem dX9_put_93 : decode cX9_put 93 = .ok (.i2l, 1) := by decide +kernel
theorem dX9_put_94 : decode cX9_put 94 = .ok (.aload_n 0, 1) := by decide +kernel
theorem dX9_put_95 : decode cX9_put 95 = .ok (.getfield 47, 3) := by decide +kernel
theorem dX9_put_98 : decode cX9_put 98 = .ok (.iload_n 2, 1) := by decide +kernel
theorem dX9_put_99 : decode cX9_put 99 = .ok (.laload, 1) := by decide +kernel
theorem dX9_put_100 : decode cX9_put 100 = .ok (.ladd, 1) := by decide +kernel
theorem dX9_put_101 : decode cX9_put 101 = .ok (.lmul, 1) := by decide +kernel
theorem dX9_put_102 : decode cX9_put 102 = .ok (.ladd, 1) := by decide +kernel
theorem dX9_put_103 : decode cX9_put 103 = .ok (.lstore 7, 2) := by decide +kernel
theorem dX9_put_105 : decode cX9_put 105 = .ok (.goto 34, 3) := by decide +kernel
theorem dX9_put_108 : decode cX9_put 108 = .ok (.aload_n 0, 1) := by decide +kernel
theorem dX9_put_109 : decode cX9_put 109 = .ok (.getfield 101, 3) := by decide +kernel
theorem dX9_put_112 : decode cX9_put 112 = .ok (.iconst 3, 1) := by decide +kernel
theorem dX9_put_113 : decode cX9_put 113 = .ok (.if_icmp .ne 26, 3) := by decide +kernel
theorem dX9_put_116 : decode cX9_put 116 = .ok (.aload_n 0, 1) := by decide +kernel
theorem dX9_put_117 : decode cX9_put 117 = .ok (.lload 5, 2) := by decide +kernel
theorem dX9_put_119 : decode cX9_put 119 = .ok (.aload_n 0, 1) := by decide +kernel
theorem dX9_put_120 : decode cX9_put 120 = .ok (.getfield 47, 3) := by decide +kernel
theorem dX9_put_123 : decode cX9_put 123 = .ok (.iload_n 2, 1) := by decide +kernel
theorem dX9_put_124 : decode cX9_put 124 = .ok (.laload, 1) := by decide +kernel
theorem dX9_put_125 : decode cX9_put 125 = .ok (.iload_n 3, 1) := by decide +kernel
theorem dX9_put_126 : decode cX9_put 126 = .ok (.invokevirtual 190, 3) := by decide +kernel
theorem dX9_put_129 : decode cX9_put 129 = .ok (.lstore 5, 2) := by decide +kernel
theorem dX9_put_131 : decode cX9_put 131 = .ok (.lload 5, 2) := by decide +kernel
theorem dX9_put_133 : decode cX9_put 133 = .ok (.lconst 0, 1) := by decide +kernel
theorem dX9_put_134 : decode cX9_put 134 = .ok (.lcmp, 1) := by decide +kernel
theorem dX9_put_135 : decode cX9_put 135 = .ok (.ifCond .ne 4, 3) := by decide +kernel
theorem dX9_put_138 : decode cX9_put 138 = .ok (.return_, 1) := by decide +kernel
theorem dX9_put_139 : decode cX9_put 139 = .ok (.aload_n 0, 1) := by decide +kernel
theorem dX9_put_140 : decode cX9_put 140 = .ok (.getfield 33, 3) := by decide +kernel
theorem dX9_put_143 : decode cX9_put 143 = .ok (.iload_n 3, 1) := by decide +kernel
theorem dX9_put_144 : decode cX9_put 144 = .ok (.ldc 140, 2) := by decide +kernel
theorem dX9_put_146 : decode cX9_put 146 = .ok (.iand, 1) := by decide +kernel
theorem dX9_put_147 : decode cX9_put 147 = .ok (.iaload, 1) := by decide +kernel
theorem dX9_put_148 : decode cX9_put 148 = .ok (.iconst 1, 1) := by decide +kernel
theorem dX9_put_149 : decode cX9_put 149 = .ok (.isub, 1) := by decide +kernel
theorem dX9_put_150 : decode cX9_put 150 = .ok (.istore 9, 2) := by decide +kernel
theorem dX9_put_152 : decode cX9_put 152 = .ok (.iload 9, 2) := by decide +kernel
theorem dX9_put_154 : decode cX9_put 154 = .ok (.ifCond .ge 15, 3) := by decide +kernel
theorem dX9_put_157 : decode cX9_put 157 = .ok (.aload_n 0, 1) := by decide +kernel
theorem dX9_put_158 : decode cX9_put 158 = .ok (.iload_n 3, 1) := by decide +kernel
theorem dX9_put_159 : decode cX9_put 159 = .ok (.lload 5, 2) := by decide +kernel
theorem dX9_put_161 : decode cX9_put 161 = .ok (.lload 7, 2) := by decide +kernel
theorem dX9_put_163 : decode cX9_put 163 = .ok (.invokevirtual 194, 3) := by decide +kernel
theorem dX9_put_166 : decode cX9_put 166 = .ok (.goto 38, 3) := by decide +kernel
theorem dX9_put_169 : decode cX9_put 169 = .ok (.iload 9, 2) := by decide +kernel
theorem dX9_put_171 : decode cX9_put 171 = .ok (.aload_n 0, 1) := by decide +kernel
theorem dX9_put_172 : decode cX9_put 172 = .ok (.getfield 41, 3) := by decide +kernel
theorem dX9_put_175 : decode cX9_put 175 = .ok (.getfield 114, 3) := by decide +kernel
theorem dX9_put_178 : decode cX9_put 178 = .ok (.if_icmp .ge 26, 3) := by decide +kernel
theorem dX9_put_181 : decode cX9_put 181 = .ok (.iload 9, 2) := by decide +kernel
theorem dX9_put_183 : decode cX9_put 183 = .ok (.aload_n 0, 1) := by decide +kernel
theorem dX9_put_184 : decode cX9_put 184 = .ok (.getfield 41, 3) := by decide +kernel
theorem dX9_put_187 : decode cX9_put 187 = .ok (.getfield 117, 3) := by decide +kernel
theorem dX9_put_190 : decode cX9_put 190 = .ok (.arraylength, 1) := by decide +kernel
theorem dX9_put_191 : decode cX9_put 191 = .ok (.if_icmp .ge 13, 3) := by decide +kernel
theorem dX9_put_194 : decode cX9_put 194 = .ok (.aload_n 0, 1) := by decide +kernel
theorem dX9_put_195 : decode cX9_put 195 = .ok (.iload 9, 2) := by decide +kernel
theorem dX9_put_197 : decode cX9_put 197 = .ok (.lload 5, 2) := by decide +kernel
theorem dX9_put_199 : decode cX9_put 199 = .ok (.lload 7, 2) := by decide +kernel
theorem dX9_put_201 : decode cX9_put 201 = .ok (.invokevirtual 197, 3) := by decide +kernel
theorem dX9_put_204 : decode cX9_put 204 = .ok (.return_, 1) := by decide +kernel
theorem dX9_append_0 : decode cX9_append 0 = .ok (.aload_n 0, 1) := by decide +kernel
theorem dX9_append_1 : decode cX9_append 1 = .ok (.getfield 41, 3) := by decide +kernel
theorem dX9_append_4 : decode cX9_append 4 = .ok (.getfield 114, 3) := by decide +kernel
theorem dX9_append_7 : decode cX9_append 7 = .ok (.istore 6, 2) := by decide +kernel
theorem dX9_append_9 : decode cX9_append 9 = .ok (.iload 6, 2) := by decide +kernel
theorem dX9_append_11 : decode cX9_append 11 = .ok (.aload_n 0, 1) := by decide +kernel
theorem dX9_append_12 : decode cX9_append 12 = .ok (.getfield 41, 3) := by decide +kernel
theorem dX9_append_15 : decode cX9_append 15 = .ok (.getfield 117, 3) := by decide +kernel
theorem dX9_append_18 : decode cX9_append 18 = .ok (.arraylength, 1) := by decide +kernel
theorem dX9_append_19 : decode cX9_append 19 = .ok (.if_icmp .ge 63, 3) := by decide +kernel
theorem dX9_append_22 : decode cX9_append 22 = .ok (.aload_n 0, 1) := by decide +kernel
theorem dX9_append_23 : decode cX9_append 23 = .ok (.getfield 41, 3) := by decide +kernel
theorem dX9_append_26 : decode cX9_append 26 = .ok (.getfield 117, 3) := by decide +kernel
theorem dX9_append_29 : decode cX9_append 29 = .ok (.iload 6, 2) := by decide +kernel
theorem dX9_append_31 : decode cX9_append 31 = .ok (.iload_n 1, 1) := by decide +kernel
theorem dX9_append_32 : decode cX9_append 32 = .ok (.iastore, 1) := by decide +kernel
theorem dX9_append_33 : decode cX9_append 33 = .ok (.aload_n 0, 1) := by decide +kernel
theorem dX9_append_34 : decode cX9_append 34 = .ok (.getfield 41, 3) := by decide +kernel
theorem dX9_append_37 : decode cX9_append 37 = .ok (.getfield 120, 3) := by decide +kernel
theorem dX9_append_40 : decode cX9_append 40 = .ok (.iload 6, 2) := by decide +kernel
theorem dX9_append_42 : decode cX9_append 42 = .ok (.lload_n 2, 1) := by decide +kernel
theorem dX9_append_43 : decode cX9_append 43 = .ok (.lastore, 1) := by decide +kernel
theorem dX9_append_44 : decode cX9_append 44 = .ok (.aload_n 0, 1) := by decide +kernel
theorem dX9_append_45 : decode cX9_append 45 = .ok (.getfield 41, 3) := by decide +kernel
theorem dX9_append_48 : decode cX9_append 48 = .ok (.getfield 125, 3) := by decide +kernel
theorem dX9_append_51 : decode cX9_append 51 = .ok (.iload 6, 2) := by decide +kernel
theorem dX9_append_53 : decode cX9_append 53 = .ok (.lload 4, 2) := by decide +kernel
theorem dX9_append_55 : decode cX9_append 55 = .ok (.lastore, 1) := by decide +kernel
theorem dX9_append_56 : decode cX9_append 56 = .ok (.aload_n 0, 1) := by decide +kernel
theorem dX9_append_57 : decode cX9_append 57 = .ok (.getfield 41, 3) := by decide +kernel
theorem dX9_append_60 : decode cX9_append 60 = .ok (.dup, 1) := by decide +kernel
theorem dX9_append_61 : decode cX9_append 61 = .ok (.getfield 114, 3) := by decide +kernel
theorem dX9_append_64 : decode cX9_append 64 = .ok (.iconst 1, 1) := by decide +kernel
theorem dX9_append_65 : decode cX9_append 65 = .ok (.iadd, 1) := by decide +kernel
theorem dX9_append_66 : decode cX9_append 66 = .ok (.putfield 114, 3) := by decide +kernel
theorem dX9_append_69 : decode cX9_append 69 = .ok (.aload_n 0, 1) := by decide +kernel
theorem dX9_append_70 : decode cX9_append 70 = .ok (.getfield 33, 3) := by decide +kernel
theorem dX9_append_73 : decode cX9_append 73 = .ok (.iload_n 1, 1) := by decide +kernel
theorem dX9_append_74 : decode cX9_append 74 = .ok (.ldc 140, 2) := by decide +kernel
theorem dX9_append_76 : decode cX9_append 76 = .ok (.iand, 1) := by decide +kernel
theorem dX9_append_77 : decode cX9_append 77 = .ok (.iload 6, 2) := by decide +kernel
theorem dX9_append_79 : decode cX9_append 79 = .ok (.iconst 1, 1) := by decide +kernel
theorem dX9_append_80 : decode cX9_append 80 = .ok (.iadd, 1) := by decide +kernel
theorem dX9_append_81 : decode cX9_append 81 = .ok (.iastore, 1) := by decide +kernel
theorem dX9_append_82 : decode cX9_append 82 = .ok (.return_, 1) := by decide +kernel
theorem dX9_merge_0 : decode cX9_merge 0 = .ok (.aload_n 0, 1) := by decide +kernel
theorem dX9_merge_1 : decode cX9_merge 1 = .ok (.getfield 41, 3) := by decide +kernel
theorem dX9_merge_4 : decode cX9_merge 4 = .ok (.getfield 120, 3) := by decide +kernel
theorem dX9_merge_7 : decode cX9_merge 7 = .ok (.astore 6, 2) := by decide +kernel
theorem dX9_merge_9 : decode cX9_merge 9 = .ok (.aload_n 0, 1) := by decide +kernel
theorem dX9_merge_10 : decode cX9_merge 10 = .ok (.getfield 41, 3) := by decide +kernel
theorem dX9_merge_13 : decode cX9_merge 13 = .ok (.getfield 125, 3) := by decide +kernel
theorem dX9_merge_16 : decode cX9_merge 16 = .ok (.astore 7, 2) := by decide +kernel
theorem dX9_merge_18 : decode cX9_merge 18 = .ok (.aload_n 0, 1) := by decide +kernel
theorem dX9_merge_19 : decode cX9_merge 19 = .ok (.getfield 101, 3) := by decide +kernel
theorem dX9_merge_22 : decode cX9_merge 22 = .ok (.iconst 3, 1) := by decide +kernel
theorem dX9_merge_23 : decode cX9_merge 23 = .ok (.if_icmp .ne 14, 3) := by decide +kernel
theorem dX9_merge_26 : decode cX9_merge 26 = .ok (.aload 6, 2) := by decide +kernel
theorem dX9_merge_28 : decode cX9_merge 28 = .ok (.iload_n 1, 1) := by decide +kernel
theorem dX9_merge_29 : decode cX9_merge 29 = .ok (.dup2, 1) := by decide +kernel
theorem dX9_merge_30 : decode cX9_merge 30 = .ok (.laload, 1) := by decide +kernel
theorem dX9_merge_31 : decode cX9_merge 31 = .ok (.lload_n 2, 1) := by decide +kernel
theorem dX9_merge_32 : decode cX9_merge 32 = .ok (.lor, 1) := by decide +kernel
theorem dX9_merge_33 : decode cX9_merge 33 = .ok (.lastore, 1) := by decide +kernel
theorem dX9_merge_34 : decode cX9_merge 34 = .ok (.goto 144, 3) := by decide +kernel
theorem dX9_merge_37 : decode cX9_merge 37 = .ok (.aload_n 0, 1) := by decide +kernel
theorem dX9_merge_38 : decode cX9_merge 38 = .ok (.getfield 101, 3) := by decide +kernel
theorem dX9_merge_41 : decode cX9_merge 41 = .ok (.iconst 2, 1) := by decide +kernel
theorem dX9_merge_42 : decode cX9_merge 42 = .ok (.if_icmp .ne 89, 3) := by decide +kernel
theorem dX9_merge_45 : decode cX9_merge 45 = .ok (.aload 6, 2) := by decide +kernel
theorem dX9_merge_47 : decode cX9_merge 47 = .ok (.iload_n 1, 1) := by decide +kernel
theorem dX9_merge_48 : decode cX9_merge 48 = .ok (.aload 6, 2) := by decide +kernel
theorem dX9_merge_50 : decode cX9_merge 50 = .ok (.iload_n 1, 1) := by decide +kernel
theorem dX9_merge_51 : decode cX9_merge 51 = .ok (.laload, 1) := by decide +kernel
theorem dX9_merge_52 : decode cX9_merge 52 = .ok (.lload_n 2, 1) := by decide +kernel
theorem dX9_merge_53 : decode cX9_merge 53 = .ok (.ladd, 1) := by decide +kernel
theorem dX9_merge_54 : decode cX9_merge 54 = .ok (.ldc2_w 186, 3) := by decide +kernel
theorem dX9_merge_57 : decode cX9_merge 57 = .ok (.lrem, 1) := by decide +kernel
theorem dX9_merge_58 : decode cX9_merge 58 = .ok (.lastore, 1) := by decide +kernel
theorem dX9_merge_59 : decode cX9_merge 59 = .ok (.aload 7, 2) := by decide +kernel
theorem dX9_merge_61 : decode cX9_merge 61 = .ok (.iload_n 1, 1) := by decide +kernel
theorem dX9_merge_62 : decode cX9_merge 62 = .ok (.laload, 1) := by decide +kernel
theorem dX9_merge_63 : decode cX9_merge 63 = .ok (.lstore 8, 2) := by decide +kernel
theorem dX9_merge_65 : decode cX9_merge 65 = .ok (.lload 8, 2) := by decide +kernel
theorem dX9_merge_67 : decode cX9_merge 67 = .ok (.bipush 32, 2) := by decide +kernel
theorem dX9_merge_69 : decode cX9_merge 69 = .ok (.lushr, 1) := by decide +kernel
theorem dX9_merge_70 : decode cX9_merge 70 = .ok (.lload 4, 2) := by decide +kernel
theorem dX9_merge_72 : decode cX9_merge 72 = .ok (.bipush 32, 2) := by decide +kernel
theorem dX9_merge_74 : decode cX9_merge 74 = .ok (.lushr, 1) := by decide +kernel
theorem dX9_merge_75 : decode cX9_merge 75 = .ok (.lcmp, 1) := by decide +kernel
theorem dX9_merge_76 : decode cX9_merge 76 = .ok (.ifCond .ge 11, 3) := by decide +kernel
theorem dX9_merge_79 : decode cX9_merge 79 = .ok (.lload 8, 2) := by decide +kernel
theorem dX9_merge_81 : decode cX9_merge 81 = .ok (.bipush 32, 2) := by decide +kernel
theorem dX9_merge_83 : decode cX9_merge 83 = .ok (.lushr, 1) := by decide +kernel
theorem dX9_merge_84 : decode cX9_merge 84 = .ok (.goto 8, 3) := by decide +kernel
theorem dX9_merge_87 : decode cX9_merge 87 = .ok (.lload 4, 2) := by decide +kernel
theorem dX9_merge_89 : decode cX9_merge 89 = .ok (.bipush 32, 2) := by decide +kernel
theorem dX9_merge_91 : decode cX9_merge 91 = .ok (.lushr, 1) := by decide +kernel
theorem dX9_merge_92 : decode cX9_merge 92 = .ok (.lstore 10, 2) := by decide +kernel
theorem dX9_merge_94 : decode cX9_merge 94 = .ok (.lload 8, 2) := by decide +kernel
theorem dX9_merge_96 : decode cX9_merge 96 = .ok (.l2i, 1) := by decide +kernel
theorem dX9_merge_97 : decode cX9_merge 97 = .ok (.lload 4, 2) := by decide +kernel
theorem dX9_merge_99 : decode cX9_merge 99 = .ok (.l2i, 1) := by decide +kernel
theorem dX9_merge_100 : decode cX9_merge 100 = .ok (.if_icmp .le 10, 3) := by decide +kernel
theorem dX9_merge_103 : decode cX9_merge 103 = .ok (.lload 8, 2) := by decide +kernel
theorem dX9_merge_105 : decode cX9_merge 105 = .ok (.l2i, 1) := by decide +kernel
theorem dX9_merge_106 : decode cX9_merge 106 = .ok (.i2l, 1) := by decide +kernel
theorem dX9_merge_107 : decode cX9_merge 107 = .ok (.goto 7, 3) := by decide +kernel
theorem dX9_merge_110 : decode cX9_merge 110 = .ok (.lload 4, 2) := by decide +kernel
theorem dX9_merge_112 : decode cX9_merge 112 = .ok (.l2i, 1) := by decide +kernel
theorem dX9_merge_113 : decode cX9_merge 113 = .ok (.i2l, 1) := by decide +kernel
theorem dX9_merge_114 : decode cX9_merge 114 = .ok (.lstore 12, 2) := by decide +kernel
theorem dX9_merge_116 : decode cX9_merge 116 = .ok (.aload 7, 2) := by decide +kernel
theorem dX9_merge_118 : decode cX9_merge 118 = .ok (.iload_n 1, 1) := by decide +kernel
theorem dX9_merge_119 : decode cX9_merge 119 = .ok (.lload 10, 2) := by decide +kernel
theorem dX9_merge_121 : decode cX9_merge 121 = .ok (.bipush 32, 2) := by decide +kernel
theorem dX9_merge_123 : decode cX9_merge 123 = .ok (.lshl, 1) := by decide +kernel
theorem dX9_merge_124 : decode cX9_merge 124 = .ok (.lload 12, 2) := by decide +kernel
theorem dX9_merge_126 : decode cX9_merge 126 = .ok (.lor, 1) := by decide +kernel
theorem dX9_merge_127 : decode cX9_merge 127 = .ok (.lastore, 1) := by decide +kernel
theorem dX9_merge_128 : decode cX9_merge 128 = .ok (.goto 50, 3) := by decide +kernel
theorem dX9_merge_131 : decode cX9_merge 131 = .ok (.aload_n 0, 1) := by decide +kernel
theorem dX9_merge_132 : decode cX9_merge 132 = .ok (.getfield 101, 3) := by decide +kernel
theorem dX9_merge_135 : decode cX9_merge 135 = .ok (.iconst 4, 1) := by decide +kernel
theorem dX9_merge_136 : decode cX9_merge 136 = .ok (.if_icmp .ne 42, 3) := by decide +kernel
theorem dX9_merge_139 : decode cX9_merge 139 = .ok (.lload_n 2, 1) := by decide +kernel
theorem dX9_merge_140 : decode cX9_merge 140 = .ok (.aload 6, 2) := by decide +kernel
theorem dX9_merge_142 : decode cX9_merge 142 = .ok (.iload_n 1, 1) := by decide +kernel
theorem dX9_merge_143 : decode cX9_merge 143 = .ok (.laload, 1) := by decide +kernel
theorem dX9_merge_144 : decode cX9_merge 144 = .ok (.lcmp, 1) := by decide +kernel
theorem dX9_merge_145 : decode cX9_merge 145 = .ok (.ifCond .gt 22, 3) := by decide +kernel
theorem dX9_merge_148 : decode cX9_merge 148 = .ok (.lload_n 2, 1) := by decide +kernel
theorem dX9_merge_149 : decode cX9_merge 149 = .ok (.aload 6, 2) := by decide +kernel
theorem dX9_merge_151 : decode cX9_merge 151 = .ok (.iload_n 1, 1) := by decide +kernel
theorem dX9_merge_152 : decode cX9_merge 152 = .ok (.laload, 1) := by decide +kernel
theorem dX9_merge_153 : decode cX9_merge 153 = .ok (.lcmp, 1) := by decide +kernel
theorem dX9_merge_154 : decode cX9_merge 154 = .ok (.ifCond .ne 24, 3) := by decide +kernel
theorem dX9_merge_157 : decode cX9_merge 157 = .ok (.lload 4, 2) := by decide +kernel
theorem dX9_merge_159 : decode cX9_merge 159 = .ok (.aload 7, 2) := by decide +kernel
theorem dX9_merge_161 : decode cX9_merge 161 = .ok (.iload_n 1, 1) := by decide +kernel
theorem dX9_merge_162 : decode cX9_merge 162 = .ok (.laload, 1) := by decide +kernel
theorem dX9_merge_163 : decode cX9_merge 163 = .ok (.lcmp, 1) := by decide +kernel
theorem dX9_merge_164 : decode cX9_merge 164 = .ok (.ifCond .le 14, 3) := by decide +kernel
theorem dX9_merge_167 : decode cX9_merge 167 = .ok (.aload 6, 2) := by decide +kernel
theorem dX9_merge_169 : decode cX9_merge 169 = .ok (.iload_n 1, 1) := by decide +kernel
theorem dX9_merge_170 : decode cX9_merge 170 = .ok (.lload_n 2, 1) := by decide +kernel
theorem dX9_merge_171 : decode cX9_merge 171 = .ok (.lastore, 1) := by decide +kernel
theorem dX9_merge_172 : decode cX9_merge 172 = .ok (.aload 7, 2) := by decide +kernel
theorem dX9_merge_174 : decode cX9_merge 174 = .ok (.iload_n 1, 1) := by decide +kernel
theorem dX9_merge_175 : decode cX9_merge 175 = .ok (.lload 4, 2) := by decide +kernel
theorem dX9_merge_177 : decode cX9_merge 177 = .ok (.lastore, 1) := by decide +kernel
theorem dX9_merge_178 : decode cX9_merge 178 = .ok (.return_, 1) := by decide +kernel
theorem dX9_withExtras_0 : decode cX9_withExtras 0 = .ok (.lload_n 3, 1) := by decide +kernel
theorem dX9_withExtras_1 : decode cX9_withExtras 1 = .ok (.ldc2_w 123, 3) := by decide +kernel
theorem dX9_withExtras_4 : decode cX9_withExtras 4 = .ok (.land, 1) := by decide +kernel
theorem dX9_withExtras_5 : decode cX9_withExtras 5 = .ok (.lconst 0, 1) := by decide +kernel
theorem dX9_withExtras_6 : decode cX9_withExtras 6 = .ok (.lcmp, 1) := by decide +kernel
theorem dX9_withExtras_7 : decode cX9_withExtras 7 = .ok (.ifCond .eq 7, 3) := by decide +kernel
theorem dX9_withExtras_10 : decode cX9_withExtras 10 = .ok (.lload_n 1, 1) := by decide +kernel
theorem dX9_withExtras_11 : decode cX9_withExtras 11 = .ok (.goto 4, 3) := by decide +kernel
theorem dX9_withExtras_14 : decode cX9_withExtras 14 = .ok (.lconst 0, 1) := by decide +kernel
theorem dX9_withExtras_15 : decode cX9_withExtras 15 = .ok (.lload_n 1, 1) := by decide +kernel
theorem dX9_withExtras_16 : decode cX9_withExtras 16 = .ok (.ldc2_w 123, 3) := by decide +kernel
theorem dX9_withExtras_19 : decode cX9_withExtras 19 = .ok (.land, 1) := by decide +kernel
theorem dX9_withExtras_20 : decode cX9_withExtras 20 = .ok (.lconst 0, 1) := by decide +kernel
theorem dX9_withExtras_21 : decode cX9_withExtras 21 = .ok (.lcmp, 1) := by decide +kernel
theorem dX9_withExtras_22 : decode cX9_withExtras 22 = .ok (.ifCond .eq 11, 3) := by decide +kernel
theorem dX9_withExtras_25 : decode cX9_withExtras 25 = .ok (.lload_n 3, 1) := by decide +kernel
theorem dX9_withExtras_26 : decode cX9_withExtras 26 = .ok (.ldc2_w 200, 3) := by decide +kernel
theorem dX9_withExtras_29 : decode cX9_withExtras 29 = .ok (.land, 1) := by decide +kernel
theorem dX9_withExtras_30 : decode cX9_withExtras 30 = .ok (.goto 4, 3) := by decide +kernel
theorem dX9_withExtras_33 : decode cX9_withExtras 33 = .ok (.lconst 0, 1) := by decide +kernel
theorem dX9_withExtras_34 : decode cX9_withExtras 34 = .ok (.lor, 1) := by decide +kernel
theorem dX9_withExtras_35 : decode cX9_withExtras 35 = .ok (.lstore 6, 2) := by decide +kernel
theorem dX9_withExtras_37 : decode cX9_withExtras 37 = .ok (.iconst 0, 1) := by decide +kernel
theorem dX9_withExtras_38 : decode cX9_withExtras 38 = .ok (.istore 8, 2) := by decide +kernel
theorem dX9_withExtras_40 : decode cX9_withExtras 40 = .ok (.iconst 0, 1) := by decide +kernel
theorem dX9_withExtras_41 : decode cX9_withExtras 41 = .ok (.istore 9, 2) := by decide +kernel
theorem dX9_withExtras_43 : decode cX9_withExtras 43 = .ok (.iload 9, 2) := by decide +kernel
theorem dX9_withExtras_45 : decode cX9_withExtras 45 = .ok (.iconst 4, 1) := by decide +kernel
theorem dX9_withExtras_46 : decode cX9_withExtras 46 = .ok (.if_icmp .ge 36, 3) := by decide +kernel
theorem dX9_withExtras_49 : decode cX9_withExtras 49 = .ok (.iload 8, 2) := by decide +kernel
theorem dX9_withExtras_51 : decode cX9_withExtras 51 = .ok (.aload_n 0, 1) := by decide +kernel
theorem dX9_withExtras_52 : decode cX9_withExtras 52 = .ok (.getfield 60, 3) := by decide +kernel
theorem dX9_withExtras_55 : decode cX9_withExtras 55 = .ok (.iload 9, 2) := by decide +kernel
theorem dX9_withExtras_57 : decode cX9_withExtras 57 = .ok (.iaload, 1) := by decide +kernel
theorem dX9_withExtras_58 : decode cX9_withExtras 58 = .ok (.iload 5, 2) := by decide +kernel
theorem dX9_withExtras_60 : decode cX9_withExtras 60 = .ok (.iconst 4, 1) := by decide +kernel
theorem dX9_withExtras_61 : decode cX9_withExtras 61 = .ok (.iload 9, 2) := by decide +kernel
theorem dX9_withExtras_63 : decode cX9_withExtras 63 = .ok (.imul, 1) := by decide +kernel
theorem dX9_withExtras_64 : decode cX9_withExtras 64 = .ok (.ishr, 1) := by decide +kernel
theorem dX9_withExtras_65 : decode cX9_withExtras 65 = .ok (.bipush 15, 2) := by decide +kernel
theorem dX9_withExtras_67 : decode cX9_withExtras 67 = .ok (.iand, 1) := by decide +kernel
theorem dX9_withExtras_68 : decode cX9_withExtras 68 = .ok (.ishr, 1) := by decide +kernel
theorem dX9_withExtras_69 : decode cX9_withExtras 69 = .ok (.iconst 1, 1) := by decide +kernel
theorem dX9_withExtras_70 : decode cX9_withExtras 70 = .ok (.iand, 1) := by decide +kernel
theorem dX9_withExtras_71 : decode cX9_withExtras 71 = .ok (.iconst 1, 1) := by decide +kernel
theorem dX9_withExtras_72 : decode cX9_withExtras 72 = .ok (.ixor, 1) := by decide +kernel
theorem dX9_withExtras_73 : decode cX9_withExtras 73 = .ok (.iadd, 1) := by decide +kernel
theorem dX9_withExtras_74 : decode cX9_withExtras 74 = .ok (.istore 8, 2) := by decide +kernel
theorem dX9_withExtras_76 : decode cX9_withExtras 76 = .ok (.iinc 9 1, 3) := by decide +kernel
theorem dX9_withExtras_79 : decode cX9_withExtras 79 = .ok (.goto (-36), 3) := by decide +kernel
theorem dX9_withExtras_82 : decode cX9_withExtras 82 = .ok (.iload 8, 2) := by decide +kernel
theorem dX9_withExtras_84 : decode cX9_withExtras 84 = .ok (.ifCond .ne 8, 3) := by decide +kernel
theorem dX9_withExtras_87 : decode cX9_withExtras 87 = .ok (.lload 6, 2) := by decide +kernel
theorem dX9_withExtras_89 : decode cX9_withExtras 89 = .ok (.goto 19, 3) := by decide +kernel
theorem dX9_withExtras_92 : decode cX9_withExtras 92 = .ok (.iload 8, 2) := by decide +kernel
theorem dX9_withExtras_94 : decode cX9_withExtras 94 = .ok (.iconst 1, 1) := by decide +kernel
theorem dX9_withExtras_95 : decode cX9_withExtras 95 = .ok (.if_icmp .ne 12, 3) := by decide +kernel
theorem dX9_withExtras_98 : decode cX9_withExtras 98 = .ok (.lload 6, 2) := by decide +kernel
theorem dX9_withExtras_100 : decode cX9_withExtras 100 = .ok (.ldc2_w 123, 3) := by decide +kernel
theorem dX9_withExtras_103 : decode cX9_withExtras 103 = .ok (.land, 1) := by decide +kernel
theorem dX9_withExtras_104 : decode cX9_withExtras 104 = .ok (.goto 4, 3) := by decide +kernel
theorem dX9_withExtras_107 : decode cX9_withExtras 107 = .ok (.lconst 0, 1) := by decide +kernel
theorem dX9_withExtras_108 : decode cX9_withExtras 108 = .ok (.lreturn, 1) := by decide +kernel
