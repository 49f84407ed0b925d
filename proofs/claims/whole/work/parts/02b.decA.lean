theorem dX0_init_0 : decode cX0_init 0 = .ok (.aload_n 0, 1) := by decide +kernel
theorem dX0_init_1 : decode cX0_init 1 = .ok (.invokespecial 3, 3) := by decide +kernel
theorem dX0_init_4 : decode cX0_init 4 = .ok (.aload_n 0, 1) := by decide +kernel
theorem dX0_init_5 : decode cX0_init 5 = .ok (.new 9, 3) := by decide +kernel
theorem dX0_init_8 : decode cX0_init 8 = .ok (.dup, 1) := by decide +kernel
theorem dX0_init_9 : decode cX0_init 9 = .ok (.invokespecial 11, 3) := by decide +kernel
theorem dX0_init_12 : decode cX0_init 12 = .ok (.putfield 12, 3) := by decide +kernel
theorem dX0_init_15 : decode cX0_init 15 = .ok (.aload_n 0, 1) := by decide +kernel
theorem dX0_init_16 : decode cX0_init 16 = .ok (.iconst 0, 1) := by decide +kernel
theorem dX0_init_17 : decode cX0_init 17 = .ok (.putfield 18, 3) := by decide +kernel
theorem dX0_init_20 : decode cX0_init 20 = .ok (.aload_n 0, 1) := by decide +kernel
theorem dX0_init_21 : decode cX0_init 21 = .ok (.iconst 0, 1) := by decide +kernel
theorem dX0_init_22 : decode cX0_init 22 = .ok (.putfield 22, 3) := by decide +kernel
theorem dX0_init_25 : decode cX0_init 25 = .ok (.aload_n 0, 1) := by decide +kernel
theorem dX0_init_26 : decode cX0_init 26 = .ok (.aload_n 1, 1) := by decide +kernel
theorem dX0_init_27 : decode cX0_init 27 = .ok (.putfield 26, 3) := by decide +kernel
theorem dX0_init_30 : decode cX0_init 30 = .ok (.aload_n 0, 1) := by decide +kernel
theorem dX0_init_31 : decode cX0_init 31 = .ok (.iload_n 2, 1) := by decide +kernel
theorem dX0_init_32 : decode cX0_init 32 = .ok (.putfield 30, 3) := by decide +kernel
theorem dX0_init_35 : decode cX0_init 35 = .ok (.aload_n 0, 1) := by decide +kernel
theorem dX0_init_36 : decode cX0_init 36 = .ok (.iload_n 3, 1) := by decide +kernel
theorem dX0_init_37 : decode cX0_init 37 = .ok (.putfield 33, 3) := by decide +kernel
theorem dX0_init_40 : decode cX0_init 40 = .ok (.return_, 1) := by decide +kernel
theorem dX0_look_0 : decode cX0_look 0 = .ok (.aload_n 0, 1) := by decide +kernel
theorem dX0_look_1 : decode cX0_look 1 = .ok (.getfield 33, 3) := by decide +kernel
theorem dX0_look_4 : decode cX0_look 4 = .ok (.sipush 128, 3) := by decide +kernel
theorem dX0_look_7 : decode cX0_look 7 = .ok (.imul, 1) := by decide +kernel
theorem dX0_look_8 : decode cX0_look 8 = .ok (.istore_n 1, 1) := by decide +kernel
theorem dX0_look_9 : decode cX0_look 9 = .ok (.aload_n 0, 1) := by decide +kernel
theorem dX0_look_10 : decode cX0_look 10 = .ok (.getfield 26, 3) := by decide +kernel
theorem dX0_look_13 : decode cX0_look 13 = .ok (.getfield 36, 3) := by decide +kernel
theorem dX0_look_16 : decode cX0_look 16 = .ok (.iload_n 1, 1) := by decide +kernel
theorem dX0_look_17 : decode cX0_look 17 = .ok (.iconst 4, 1) := by decide +kernel
theorem dX0_look_18 : decode cX0_look 18 = .ok (.invokevirtual 42, 3) := by decide +kernel
theorem dX0_look_21 : decode cX0_look 21 = .ok (.lstore_n 2, 1) := by decide +kernel
theorem dX0_look_22 : decode cX0_look 22 = .ok (.aload_n 0, 1) := by decide +kernel
theorem dX0_look_23 : decode cX0_look 23 = .ok (.getfield 26, 3) := by decide +kernel
theorem dX0_look_26 : decode cX0_look 26 = .ok (.getfield 36, 3) := by decide +kernel
theorem dX0_look_29 : decode cX0_look 29 = .ok (.iload_n 1, 1) := by decide +kernel
theorem dX0_look_30 : decode cX0_look 30 = .ok (.iconst 4, 1) := by decide +kernel
theorem dX0_look_31 : decode cX0_look 31 = .ok (.iadd, 1) := by decide +kernel
theorem dX0_look_32 : decode cX0_look 32 = .ok (.iconst 2, 1) := by decide +kernel
theorem dX0_look_33 : decode cX0_look 33 = .ok (.invokevirtual 42, 3) := by decide +kernel
theorem dX0_look_36 : decode cX0_look 36 = .ok (.l2i, 1) := by decide +kernel
theorem dX0_look_37 : decode cX0_look 37 = .ok (.istore 4, 2) := by decide +kernel
theorem dX0_look_39 : decode cX0_look 39 = .ok (.aload_n 0, 1) := by decide +kernel
theorem dX0_look_40 : decode cX0_look 40 = .ok (.iconst 0, 1) := by decide +kernel
theorem dX0_look_41 : decode cX0_look 41 = .ok (.putfield 18, 3) := by decide +kernel
theorem dX0_look_44 : decode cX0_look 44 = .ok (.lload_n 2, 1) := by decide +kernel
theorem dX0_look_45 : decode cX0_look 45 = .ok (.lconst 1, 1) := by decide +kernel
theorem dX0_look_46 : decode cX0_look 46 = .ok (.lcmp, 1) := by decide +kernel
theorem dX0_look_47 : decode cX0_look 47 = .ok (.ifCond .lt 18, 3) := by decide +kernel
theorem dX0_look_50 : decode cX0_look 50 = .ok (.lload_n 2, 1) := by decide +kernel
theorem dX0_look_51 : decode cX0_look 51 = .ok (.ldc2_w 47, 3) := by decide +kernel
theorem dX0_look_54 : decode cX0_look 54 = .ok (.lcmp, 1) := by decide +kernel
theorem dX0_look_55 : decode cX0_look 55 = .ok (.ifCond .gt 10, 3) := by decide +kernel
theorem dX0_look_58 : decode cX0_look 58 = .ok (.iload 4, 2) := by decide +kernel
theorem dX0_look_60 : decode cX0_look 60 = .ok (.bipush 118, 2) := by decide +kernel
theorem dX0_look_62 : decode cX0_look 62 = .ok (.if_icmp .le 4, 3) := by decide +kernel
theorem dX0_look_65 : decode cX0_look 65 = .ok (.return_, 1) := by decide +kernel
theorem dX0_look_66 : decode cX0_look 66 = .ok (.aload_n 0, 1) := by decide +kernel
theorem dX0_look_67 : decode cX0_look 67 = .ok (.getfield 26, 3) := by decide +kernel
theorem dX0_look_70 : decode cX0_look 70 = .ok (.getfield 36, 3) := by decide +kernel
theorem dX0_look_73 : decode cX0_look 73 = .ok (.iload_n 1, 1) := by decide +kernel
theorem dX0_look_74 : decode cX0_look 74 = .ok (.bipush 6, 2) := by decide +kernel
theorem dX0_look_76 : decode cX0_look 76 = .ok (.iload 4, 2) := by decide +kernel
theorem dX0_look_78 : decode cX0_look 78 = .ok (.iadd, 1) := by decide +kernel
theorem dX0_look_79 : decode cX0_look 79 = .ok (.invokevirtual 49, 3) := by decide +kernel
theorem dX0_look_82 : decode cX0_look 82 = .ok (.invokestatic 52, 3) := by decide +kernel
theorem dX0_look_85 : decode cX0_look 85 = .ok (.lstore 5, 2) := by decide +kernel
theorem dX0_look_87 : decode cX0_look 87 = .ok (.lload 5, 2) := by decide +kernel
theorem dX0_look_89 : decode cX0_look 89 = .ok (.aload_n 0, 1) := by decide +kernel
theorem dX0_look_90 : decode cX0_look 90 = .ok (.getfield 26, 3) := by decide +kernel
theorem dX0_look_93 : decode cX0_look 93 = .ok (.getfield 36, 3) := by decide +kernel
theorem dX0_look_96 : decode cX0_look 96 = .ok (.iload_n 1, 1) := by decide +kernel
theorem dX0_look_97 : decode cX0_look 97 = .ok (.bipush 6, 2) := by decide +kernel
theorem dX0_look_99 : decode cX0_look 99 = .ok (.iadd, 1) := by decide +kernel
theorem dX0_look_100 : decode cX0_look 100 = .ok (.iload 4, 2) := by decide +kernel
theorem dX0_look_102 : decode cX0_look 102 = .ok (.iadd, 1) := by decide +kernel
theorem dX0_look_103 : decode cX0_look 103 = .ok (.iconst 4, 1) := by decide +kernel
theorem dX0_look_104 : decode cX0_look 104 = .ok (.invokevirtual 42, 3) := by decide +kernel
theorem dX0_look_107 : decode cX0_look 107 = .ok (.lcmp, 1) := by decide +kernel
theorem dX0_look_108 : decode cX0_look 108 = .ok (.ifCond .eq 4, 3) := by decide +kernel
theorem dX0_look_111 : decode cX0_look 111 = .ok (.return_, 1) := by decide +kernel
theorem dX0_look_112 : decode cX0_look 112 = .ok (.aload_n 0, 1) := by decide +kernel
theorem dX0_look_113 : decode cX0_look 113 = .ok (.iload 4, 2) := by decide +kernel
theorem dX0_look_115 : decode cX0_look 115 = .ok (.ifCond .le 7, 3) := by decide +kernel
theorem dX0_look_118 : decode cX0_look 118 = .ok (.iconst 1, 1) := by decide +kernel
theorem dX0_look_119 : decode cX0_look 119 = .ok (.goto 4, 3) := by decide +kernel
theorem dX0_look_122 : decode cX0_look 122 = .ok (.iconst 0, 1) := by decide +kernel
theorem dX0_look_123 : decode cX0_look 123 = .ok (.putfield 22, 3) := by decide +kernel
theorem dX0_look_126 : decode cX0_look 126 = .ok (.aload_n 0, 1) := by decide +kernel
theorem dX0_look_127 : decode cX0_look 127 = .ok (.getfield 22, 3) := by decide +kernel
theorem dX0_look_130 : decode cX0_look 130 = .ok (.ifCond .eq 48, 3) := by decide +kernel
theorem dX0_look_133 : decode cX0_look 133 = .ok (.aload_n 0, 1) := by decide +kernel
theorem dX0_look_134 : decode cX0_look 134 = .ok (.getfield 12, 3) := by decide +kernel
theorem dX0_look_137 : decode cX0_look 137 = .ok (.aload_n 0, 1) := by decide +kernel
theorem dX0_look_138 : decode cX0_look 138 = .ok (.getfield 26, 3) := by decide +kernel
theorem dX0_look_141 : decode cX0_look 141 = .ok (.getfield 36, 3) := by decide +kernel
theorem dX0_look_144 : decode cX0_look 144 = .ok (.iload_n 1, 1) := by decide +kernel
theorem dX0_look_145 : decode cX0_look 145 = .ok (.bipush 6, 2) := by decide +kernel
theorem dX0_look_147 : decode cX0_look 147 = .ok (.iadd, 1) := by decide +kernel
theorem dX0_look_148 : decode cX0_look 148 = .ok (.iload 4, 2) := by decide +kernel
theorem dX0_look_150 : decode cX0_look 150 = .ok (.invokevirtual 56, 3) := by decide +kernel
theorem dX0_look_153 : decode cX0_look 153 = .ok (.ifCond .eq 21, 3) := by decide +kernel
theorem dX0_look_156 : decode cX0_look 156 = .ok (.aload_n 0, 1) := by decide +kernel
theorem dX0_look_157 : decode cX0_look 157 = .ok (.getfield 12, 3) := by decide +kernel
theorem dX0_look_160 : decode cX0_look 160 = .ok (.getfield 60, 3) := by decide +kernel
theorem dX0_look_163 : decode cX0_look 163 = .ok (.aload_n 0, 1) := by decide +kernel
theorem dX0_look_164 : decode cX0_look 164 = .ok (.getfield 30, 3) := by decide +kernel
theorem dX0_look_167 : decode cX0_look 167 = .ok (.if_icmp .ne 7, 3) := by decide +kernel
theorem dX0_look_170 : decode cX0_look 170 = .ok (.iconst 1, 1) := by decide +kernel
theorem dX0_look_171 : decode cX0_look 171 = .ok (.goto 19, 3) := by decide +kernel
theorem dX0_look_174 : decode cX0_look 174 = .ok (.iconst 0, 1) := by decide +kernel
theorem dX0_look_175 : decode cX0_look 175 = .ok (.goto 15, 3) := by decide +kernel
theorem dX0_look_178 : decode cX0_look 178 = .ok (.aload_n 0, 1) := by decide +kernel
theorem dX0_look_179 : decode cX0_look 179 = .ok (.getfield 30, 3) := by decide +kernel
theorem dX0_look_182 : decode cX0_look 182 = .ok (.ifCond .eq 7, 3) := by decide +kernel
theorem dX0_look_185 : decode cX0_look 185 = .ok (.iconst 1, 1) := by decide +kernel
theorem dX0_look_186 : decode cX0_look 186 = .ok (.goto 4, 3) := by decide +kernel
theorem dX0_look_189 : decode cX0_look 189 = .ok (.iconst 0, 1) := by decide +kernel
theorem dX0_look_190 : decode cX0_look 190 = .ok (.istore 7, 2) := by decide +kernel
theorem dX0_look_192 : decode cX0_look 192 = .ok (.iload 7, 2) := by decide +kernel
theorem dX0_look_194 : decode cX0_look 194 = .ok (.ifCond .eq 9, 3) := by decide +kernel
theorem dX0_look_197 : decode cX0_look 197 = .ok (.aload_n 0, 1) := by decide +kernel
theorem dX0_look_198 : decode cX0_look 198 = .ok (.lload_n 2, 1) := by decide +kernel
theorem dX0_look_199 : decode cX0_look 199 = .ok (.l2i, 1) := by decide +kernel
theorem dX0_look_200 : decode cX0_look 200 = .ok (.putfield 18, 3) := by decide +kernel
theorem dX0_look_203 : decode cX0_look 203 = .ok (.return_, 1) := by decide +kernel
theorem dX1_init_0 : decode cX1_init 0 = .ok (.aload_n 0, 1) := by decide +kernel
theorem dX1_init_1 : decode cX1_init 1 = .ok (.invokespecial 3, 3) := by decide +kernel
theorem dX1_init_4 : decode cX1_init 4 = .ok (.aload_n 0, 1) := by decide +kernel
theorem dX1_init_5 : decode cX1_init 5 = .ok (.new 9, 3) := by decide +kernel
theorem dX1_init_8 : decode cX1_init 8 = .ok (.dup, 1) := by decide +kernel
theorem dX1_init_9 : decode cX1_init 9 = .ok (.sipush 3328, 3) := by decide +kernel
theorem dX1_init_12 : decode cX1_init 12 = .ok (.invokespecial 11, 3) := by decide +kernel
theorem dX1_init_15 : decode cX1_init 15 = .ok (.putfield 14, 3) := by decide +kernel
theorem dX1_init_18 : decode cX1_init 18 = .ok (.aload_n 0, 1) := by decide +kernel
theorem dX1_init_19 : decode cX1_init 19 = .ok (.iconst 0, 1) := by decide +kernel
theorem dX1_init_20 : decode cX1_init 20 = .ok (.putfield 20, 3) := by decide +kernel
theorem dX1_init_23 : decode cX1_init 23 = .ok (.aload_n 0, 1) := by decide +kernel
theorem dX1_init_24 : decode cX1_init 24 = .ok (.iconst 0, 1) := by decide +kernel
theorem dX1_init_25 : decode cX1_init 25 = .ok (.putfield 24, 3) := by decide +kernel
theorem dX1_init_28 : decode cX1_init 28 = .ok (.aload_n 0, 1) := by decide +kernel
theorem dX1_init_29 : decode cX1_init 29 = .ok (.iconst (-1), 1) := by decide +kernel
theorem dX1_init_30 : decode cX1_init 30 = .ok (.putfield 27, 3) := by decide +kernel
theorem dX1_init_33 : decode cX1_init 33 = .ok (.aload_n 0, 1) := by decide +kernel
theorem dX1_init_34 : decode cX1_init 34 = .ok (.iconst 0, 1) := by decide +kernel
theorem dX1_init_35 : decode cX1_init 35 = .ok (.putfield 30, 3) := by decide +kernel
theorem dX1_init_38 : decode cX1_init 38 = .ok (.aload_n 0, 1) := by decide +kernel
theorem dX1_init_39 : decode cX1_init 39 = .ok (.iconst 0, 1) := by decide +kernel
theorem dX1_init_40 : decode cX1_init 40 = .ok (.putfield 33, 3) := by decide +kernel
theorem dX1_init_43 : decode cX1_init 43 = .ok (.iconst 0, 1) := by decide +kernel
theorem dX1_init_44 : decode cX1_init 44 = .ok (.istore_n 2, 1) := by decide +kernel
theorem dX1_init_45 : decode cX1_init 45 = .ok (.iload_n 2, 1) := by decide +kernel
theorem dX1_init_46 : decode cX1_init 46 = .ok (.sipush 3328, 3) := by decide +kernel
theorem dX1_init_49 : decode cX1_init 49 = .ok (.if_icmp .ge 19, 3) := by decide +kernel
theorem dX1_init_52 : decode cX1_init 52 = .ok (.aload_n 0, 1) := by decide +kernel
theorem dX1_init_53 : decode cX1_init 53 = .ok (.getfield 14, 3) := by decide +kernel
theorem dX1_init_56 : decode cX1_init 56 = .ok (.sipush 255, 3) := by decide +kernel
theorem dX1_init_59 : decode cX1_init 59 = .ok (.invokevirtual 37, 3) := by decide +kernel
theorem dX1_init_62 : decode cX1_init 62 = .ok (.iinc 2 1, 3) := by decide +kernel
theorem dX1_init_65 : decode cX1_init 65 = .ok (.goto (-20), 3) := by decide +kernel
theorem dX1_init_68 : decode cX1_init 68 = .ok (.iconst 0, 1) := by decide +kernel
theorem dX1_init_69 : decode cX1_init 69 = .ok (.invokestatic 40, 3) := by decide +kernel
theorem dX1_init_72 : decode cX1_init 72 = .ok (.istore_n 2, 1) := by decide +kernel
theorem dX1_init_73 : decode cX1_init 73 = .ok (.iconst 0, 1) := by decide +kernel
theorem dX1_init_74 : decode cX1_init 74 = .ok (.istore_n 3, 1) := by decide +kernel
theorem dX1_init_75 : decode cX1_init 75 = .ok (.iload_n 3, 1) := by decide +kernel
theorem dX1_init_76 : decode cX1_init 76 = .ok (.iload_n 1, 1) := by decide +kernel
theorem dX1_init_77 : decode cX1_init 77 = .ok (.if_icmp .ge 25, 3) := by decide +kernel
theorem dX1_init_80 : decode cX1_init 80 = .ok (.aload_n 0, 1) := by decide +kernel
theorem dX1_init_81 : decode cX1_init 81 = .ok (.getfield 14, 3) := by decide +kernel
theorem dX1_init_84 : decode cX1_init 84 = .ok (.iload_n 2, 1) := by decide +kernel
theorem dX1_init_85 : decode cX1_init 85 = .ok (.iload_n 3, 1) := by decide +kernel
theorem dX1_init_86 : decode cX1_init 86 = .ok (.iadd, 1) := by decide +kernel
theorem dX1_init_87 : decode cX1_init 87 = .ok (.bipush 7, 2) := by decide +kernel
theorem dX1_init_89 : decode cX1_init 89 = .ok (.iload_n 3, 1) := by decide +kernel
theorem dX1_init_90 : decode cX1_init 90 = .ok (.imul, 1) := by decide +kernel
theorem dX1_init_91 : decode cX1_init 91 = .ok (.iconst 3, 1) := by decide +kernel
theorem dX1_init_92 : decode cX1_init 92 = .ok (.iadd, 1) := by decide +kernel
theorem dX1_init_93 : decode cX1_init 93 = .ok (.invokevirtual 44, 3) := by decide +kernel
theorem dX1_init_96 : decode cX1_init 96 = .ok (.iinc 3 1, 3) := by decide +kernel
theorem dX1_init_99 : decode cX1_init 99 = .ok (.goto (-24), 3) := by decide +kernel
theorem dX1_init_102 : decode cX1_init 102 = .ok (.return_, 1) := by decide +kernel
theorem dX1_isDown_0 : decode cX1_isDown 0 = .ok (.aload_n 0, 1) := by decide +kernel
theorem dX1_isDown_1 : decode cX1_isDown 1 = .ok (.getfield 33, 3) := by decide +kernel
theorem dX1_isDown_4 : decode cX1_isDown 4 = .ok (.ireturn, 1) := by decide +kernel
theorem dX1_switchOn_0 : decode cX1_switchOn 0 = .ok (.aload_n 0, 1) := by decide +kernel
theorem dX1_switchOn_1 : decode cX1_switchOn 1 = .ok (.iconst 0, 1) := by decide +kernel
theorem dX1_switchOn_2 : decode cX1_switchOn 2 = .ok (.putfield 33, 3) := by decide +kernel
theorem dX1_switchOn_5 : decode cX1_switchOn 5 = .ok (.return_, 1) := by decide +kernel
theorem dX1_tellCut_0 : decode cX1_tellCut 0 = .ok (.aload_n 0, 1) := by decide +kernel
theorem dX1_tellCut_1 : decode cX1_tellCut 1 = .ok (.iload_n 1, 1) := by decide +kernel
theorem dX1_tellCut_2 : decode cX1_tellCut 2 = .ok (.putfield 27, 3) := by decide +kernel
theorem dX1_tellCut_5 : decode cX1_tellCut 5 = .ok (.aload_n 0, 1) := by decide +kernel
theorem dX1_tellCut_6 : decode cX1_tellCut 6 = .ok (.iload_n 2, 1) := by decide +kernel
theorem dX1_tellCut_7 : decode cX1_tellCut 7 = .ok (.putfield 30, 3) := by decide +kernel
theorem dX1_tellCut_10 : decode cX1_tellCut 10 = .ok (.return_, 1) := by decide +kernel
theorem dX1_slotStart_0 : decode cX1_slotStart 0 = .ok (.bipush 10, 2) := by decide +kernel
theorem dX1_slotStart_2 : decode cX1_slotStart 2 = .ok (.iload_n 0, 1) := by decide +kernel
theorem dX1_slotStart_3 : decode cX1_slotStart 3 = .ok (.bipush 8, 2) := by decide +kernel
theorem dX1_slotStart_5 : decode cX1_slotStart 5 = .ok (.imul, 1) := by decide +kernel
theorem dX1_slotStart_6 : decode cX1_slotStart 6 = .ok (.iadd, 1) := by decide +kernel
theorem dX1_slotStart_7 : decode cX1_slotStart 7 = .ok (.sipush 128, 3) := by decide +kernel
theorem dX1_slotStart_10 : decode cX1_slotStart 10 = .ok (.imul, 1) := by decide +kernel
theorem dX1_slotStart_11 : decode cX1_slotStart 11 = .ok (.ireturn, 1) := by decide +kernel
theorem dX1_write_0 : decode cX1_write 0 = .ok (.aload_n 0, 1) := by decide +kernel
theorem dX1_write_1 : decode cX1_write 1 = .ok (.getfield 33, 3) := by decide +kernel
theorem dX1_write_4 : decode cX1_write 4 = .ok (.ifCond .eq 4, 3) := by decide +kernel
theorem dX1_write_7 : decode cX1_write 7 = .ok (.return_, 1) := by decide +kernel
theorem dX1_write_8 : decode cX1_write 8 = .ok (.aload_n 0, 1) := by decide +kernel
theorem dX1_write_9 : decode cX1_write 9 = .ok (.dup, 1) := by decide +kernel
theorem dX1_write_10 : decode cX1_write 10 = .ok (.getfield 20, 3) := by decide +kernel
theorem dX1_write_13 : decode cX1_write 13 = .ok (.iconst 1, 1) := by decide +kernel
theorem dX1_write_14 : decode cX1_write 14 = .ok (.iadd, 1) := by decide +kernel
theorem dX1_write_15 : decode cX1_write 15 = .ok (.putfield 20, 3) := by decide +kernel
theorem dX1_write_18 : decode cX1_write 18 = .ok (.aload_n 0, 1) := by decide +kernel
theorem dX1_write_19 : decode cX1_write 19 = .ok (.invokevirtual 48, 3) := by decide +kernel
theorem dX1_write_22 : decode cX1_write 22 = .ok (.ifCond .eq 10, 3) := by decide +kernel
theorem dX1_write_25 : decode cX1_write 25 = .ok (.aload_n 0, 1) := by decide +kernel
theorem dX1_write_26 : decode cX1_write 26 = .ok (.iload_n 1, 1) := by decide +kernel
theorem dX1_write_27 : decode cX1_write 27 = .ok (.aload_n 2, 1) := by decide +kernel
theorem dX1_write_28 : decode cX1_write 28 = .ok (.iload_n 3, 1) := by decide +kernel
theorem dX1_write_29 : decode cX1_write 29 = .ok (.invokevirtual 52, 3) := by decide +kernel
theorem dX1_write_32 : decode cX1_write 32 = .ok (.return_, 1) := by decide +kernel
theorem dX1_burn_0 : decode cX1_burn 0 = .ok (.iload_n 1, 1) := by decide +kernel
theorem dX1_burn_1 : decode cX1_burn 1 = .ok (.bipush 32, 2) := by decide +kernel
theorem dX1_burn_3 : decode cX1_burn 3 = .ok (.imul, 1) := by decide +kernel
theorem dX1_burn_4 : decode cX1_burn 4 = .ok (.istore 4, 2) := by decide +kernel
theorem dX1_burn_6 : decode cX1_burn 6 = .ok (.iconst 0, 1) := by decide +kernel
theorem dX1_burn_7 : decode cX1_burn 7 = .ok (.istore 5, 2) := by decide +kernel
theorem dX1_burn_9 : decode cX1_burn 9 = .ok (.iload 5, 2) := by decide +kernel
theorem dX1_burn_11 : decode cX1_burn 11 = .ok (.bipush 32, 2) := by decide +kernel
theorem dX1_burn_13 : decode cX1_burn 13 = .ok (.if_icmp .ge 42, 3) := by decide +kernel
theorem dX1_burn_16 : decode cX1_burn 16 = .ok (.aload_n 0, 1) := by decide +kernel
theorem dX1_burn_17 : decode cX1_burn 17 = .ok (.getfield 14, 3) := by decide +kernel
theorem dX1_burn_20 : decode cX1_burn 20 = .ok (.iload 4, 2) := by decide +kernel
theorem dX1_burn_22 : decode cX1_burn 22 = .ok (.iload 5, 2) := by decide +kernel
theorem dX1_burn_24 : decode cX1_burn 24 = .ok (.iadd, 1) := by decide +kernel
theorem dX1_burn_25 : decode cX1_burn 25 = .ok (.aload_n 0, 1) := by decide +kernel
theorem dX1_burn_26 : decode cX1_burn 26 = .ok (.getfield 14, 3) := by decide +kernel
theorem dX1_burn_29 : decode cX1_burn 29 = .ok (.iload 4, 2) := by decide +kernel
theorem dX1_burn_31 : decode cX1_burn 31 = .ok (.iload 5, 2) := by decide +kernel
theorem dX1_burn_33 : decode cX1_burn 33 = .ok (.iadd, 1) := by decide +kernel
theorem dX1_burn_34 : decode cX1_burn 34 = .ok (.invokevirtual 56, 3) := by decide +kernel
theorem dX1_burn_37 : decode cX1_burn 37 = .ok (.aload_n 2, 1) := by decide +kernel
theorem dX1_burn_38 : decode cX1_burn 38 = .ok (.iload_n 3, 1) := by decide +kernel
theorem dX1_burn_39 : decode cX1_burn 39 = .ok (.iload 5, 2) := by decide +kernel
theorem dX1_burn_41 : decode cX1_burn 41 = .ok (.iadd, 1) := by decide +kernel
theorem dX1_burn_42 : decode cX1_burn 42 = .ok (.invokevirtual 56, 3) := by decide +kernel
theorem dX1_burn_45 : decode cX1_burn 45 = .ok (.iand, 1) := by decide +kernel
theorem dX1_burn_46 : decode cX1_burn 46 = .ok (.invokevirtual 44, 3) := by decide +kernel
theorem dX1_burn_49 : decode cX1_burn 49 = .ok (.iinc 5 1, 3) := by decide +kernel
theorem dX1_burn_52 : decode cX1_burn 52 = .ok (.goto (-43), 3) := by decide +kernel
theorem dX1_burn_55 : decode cX1_burn 55 = .ok (.return_, 1) := by decide +kernel
theorem dX1_erase_0 : decode cX1_erase 0 = .ok (.aload_n 0, 1) := by decide +kernel
theorem dX1_erase_1 : decode cX1_erase 1 = .ok (.getfield 33, 3) := by decide +kernel
theorem dX1_erase_4 : decode cX1_erase 4 = .ok (.ifCond .eq 4, 3) := by decide +kernel
theorem dX1_erase_7 : decode cX1_erase 7 = .ok (.return_, 1) := by decide +kernel
theorem dX1_erase_8 : decode cX1_erase 8 = .ok (.aload_n 0, 1) := by decide +kernel
theorem dX1_erase_9 : decode cX1_erase 9 = .ok (.dup, 1) := by decide +kernel
theorem dX1_erase_10 : decode cX1_erase 10 = .ok (.getfield 24, 3) := by decide +kernel
theorem dX1_erase_13 : decode cX1_erase 13 = .ok (.iconst 1, 1) := by decide +kernel
theorem dX1_erase_14 : decode cX1_erase 14 = .ok (.iadd, 1) := by decide +kernel
theorem dX1_erase_15 : decode cX1_erase 15 = .ok (.putfield 24, 3) := by decide +kernel
theorem dX1_erase_18 : decode cX1_erase 18 = .ok (.aload_n 0, 1) := by decide +kernel
theorem dX1_erase_19 : decode cX1_erase 19 = .ok (.invokevirtual 48, 3) := by decide +kernel
theorem dX1_erase_22 : decode cX1_erase 22 = .ok (.ifCond .eq 7, 3) := by decide +kernel
theorem dX1_erase_25 : decode cX1_erase 25 = .ok (.iconst 0, 1) := by decide +kernel
theorem dX1_erase_26 : decode cX1_erase 26 = .ok (.goto 7, 3) := by decide +kernel
theorem dX1_erase_29 : decode cX1_erase 29 = .ok (.aload_n 0, 1) := by decide +kernel
theorem dX1_erase_30 : decode cX1_erase 30 = .ok (.getfield 30, 3) := by decide +kernel
theorem dX1_erase_33 : decode cX1_erase 33 = .ok (.istore_n 2, 1) := by decide +kernel
theorem dX1_erase_34 : decode cX1_erase 34 = .ok (.iload_n 1, 1) := by decide +kernel
theorem dX1_erase_35 : decode cX1_erase 35 = .ok (.sipush 128, 3) := by decide +kernel
theorem dX1_erase_38 : decode cX1_erase 38 = .ok (.imul, 1) := by decide +kernel
theorem dX1_erase_39 : decode cX1_erase 39 = .ok (.istore_n 3, 1) := by decide +kernel
theorem dX1_erase_40 : decode cX1_erase 40 = .ok (.iconst 0, 1) := by decide +kernel
theorem dX1_erase_41 : decode cX1_erase 41 = .ok (.istore 4, 2) := by decide +kernel
theorem dX1_erase_43 : decode cX1_erase 43 = .ok (.iload 4, 2) := by decide +kernel
theorem dX1_erase_45 : decode cX1_erase 45 = .ok (.sipush 128, 3) := by decide +kernel
theorem dX1_erase_48 : decode cX1_erase 48 = .ok (.if_icmp .ge 53, 3) := by decide +kernel
theorem dX1_erase_51 : decode cX1_erase 51 = .ok (.iload_n 2, 1) := by decide +kernel
theorem dX1_erase_52 : decode cX1_erase 52 = .ok (.bipush 8, 2) := by decide +kernel
theorem dX1_erase_54 : decode cX1_erase 54 = .ok (.iload 4, 2) := by decide +kernel
theorem dX1_erase_56 : decode cX1_erase 56 = .ok (.iconst 4, 1) := by decide +kernel
theorem dX1_erase_57 : decode cX1_erase 57 = .ok (.irem, 1) := by decide +kernel
theorem dX1_erase_58 : decode cX1_erase 58 = .ok (.imul, 1) := by decide +kernel
theorem dX1_erase_59 : decode cX1_erase 59 = .ok (.iushr, 1) := by decide +kernel
theorem dX1_erase_60 : decode cX1_erase 60 = .ok (.sipush 255, 3) := by decide +kernel
theorem dX1_erase_63 : decode cX1_erase 63 = .ok (.iand, 1) := by decide +kernel
theorem dX1_erase_64 : decode cX1_erase 64 = .ok (.istore 5, 2) := by decide +kernel
theorem dX1_erase_66 : decode cX1_erase 66 = .ok (.aload_n 0, 1) := by decide +kernel
theorem dX1_erase_67 : decode cX1_erase 67 = .ok (.getfield 14, 3) := by decide +kernel
theorem dX1_erase_70 : decode cX1_erase 70 = .ok (.iload_n 3, 1) := by decide +kernel
theorem dX1_erase_71 : decode cX1_erase 71 = .ok (.iload 4, 2) := by decide +kernel
theorem dX1_erase_73 : decode cX1_erase 73 = .ok (.iadd, 1) := by decide +kernel
theorem dX1_erase_74 : decode cX1_erase 74 = .ok (.aload_n 0, 1) := by decide +kernel
theorem dX1_erase_75 : decode cX1_erase 75 = .ok (.getfield 14, 3) := by decide +kernel
theorem dX1_erase_78 : decode cX1_erase 78 = .ok (.iload_n 3, 1) := by decide +kernel
theorem dX1_erase_79 : decode cX1_erase 79 = .ok (.iload 4, 2) := by decide +kernel
theorem dX1_erase_81 : decode cX1_erase 81 = .ok (.iadd, 1) := by decide +kernel
theorem dX1_erase_82 : decode cX1_erase 82 = .ok (.invokevirtual 56, 3) := by decide +kernel
theorem dX1_erase_85 : decode cX1_erase 85 = .ok (.sipush 255, 3) := by decide +kernel
theorem dX1_erase_88 : decode cX1_erase 88 = .ok (.iload 5, 2) := by decide +kernel
theorem dX1_erase_90 : decode cX1_erase 90 = .ok (.ixor, 1) := by decide +kernel
theorem dX1_erase_91 : decode cX1_erase 91 = .ok (.ior, 1) := by decide +kernel
theorem dX1_erase_92 : decode cX1_erase 92 = .ok (.invokevirtual 44, 3) := by decide +kernel
theorem dX1_erase_95 : decode cX1_erase 95 = .ok (.iinc 4 1, 3) := by decide +kernel
theorem dX1_erase_98 : decode cX1_erase 98 = .ok (.goto (-55), 3) := by decide +kernel
theorem dX1_erase_101 : decode cX1_erase 101 = .ok (.return_, 1) := by decide +kernel
theorem dX1_powerHolds_0 : decode cX1_powerHolds 0 = .ok (.aload_n 0, 1) := by decide +kernel
theorem dX1_powerHolds_1 : decode cX1_powerHolds 1 = .ok (.getfield 27, 3) := by decide +kernel
theorem dX1_powerHolds_4 : decode cX1_powerHolds 4 = .ok (.ifCond .ge 5, 3) := by decide +kernel
theorem dX1_powerHolds_7 : decode cX1_powerHolds 7 = .ok (.iconst 1, 1) := by decide +kernel
theorem dX1_powerHolds_8 : decode cX1_powerHolds 8 = .ok (.ireturn, 1) := by decide +kernel
theorem dX1_powerHolds_9 : decode cX1_powerHolds 9 = .ok (.aload_n 0, 1) := by decide +kernel
theorem dX1_powerHolds_10 : decode cX1_powerHolds 10 = .ok (.dup, 1) := by decide +kernel
theorem dX1_powerHolds_11 : decode cX1_powerHolds 11 = .ok (.getfield 27, 3) := by decide +kernel
theorem dX1_powerHolds_14 : decode cX1_powerHolds 14 = .ok (.iconst 1, 1) := by decide +kernel
theorem dX1_powerHolds_15 : decode cX1_powerHolds 15 = .ok (.isub, 1) := by decide +kernel
theorem dX1_powerHolds_16 : decode cX1_powerHolds 16 = .ok (.putfield 27, 3) := by decide +kernel
theorem dX1_powerHolds_19 : decode cX1_powerHolds 19 = .ok (.aload_n 0, 1) := by decide +kernel
theorem dX1_powerHolds_20 : decode cX1_powerHolds 20 = .ok (.aload_n 0, 1) := by decide +kernel
theorem dX1_powerHolds_21 : decode cX1_powerHolds 21 = .ok (.getfield 27, 3) := by decide +kernel
theorem dX1_powerHolds_24 : decode cX1_powerHolds 24 = .ok (.ifCond .ge 7, 3) := by decide +kernel
theorem dX1_powerHolds_27 : decode cX1_powerHolds 27 = .ok (.iconst 1, 1) := by decide +kernel
theorem dX1_powerHolds_28 : decode cX1_powerHolds 28 = .ok (.goto 4, 3) := by decide +kernel
theorem dX1_powerHolds_31 : decode cX1_powerHolds 31 = .ok (.iconst 0, 1) := by decide +kernel
theorem dX1_powerHolds_32 : decode cX1_powerHolds 32 = .ok (.putfield 33, 3) := by decide +kernel
theorem dX1_powerHolds_35 : decode cX1_powerHolds 35 = .ok (.aload_n 0, 1) := by decide +kernel
theorem dX1_powerHolds_36 : decode cX1_powerHolds 36 = .ok (.getfield 33, 3) := by decide +kernel
theorem dX1_powerHolds_39 : decode cX1_powerHolds 39 = .ok (.ifCond .ne 7, 3) := by decide +kernel
theorem dX1_powerHolds_42 : decode cX1_powerHolds 42 = .ok (.iconst 1, 1) := by decide +kernel
theorem dX1_powerHolds_43 : decode cX1_powerHolds 43 = .ok (.goto 4, 3) := by decide +kernel
theorem dX1_powerHolds_46 : decode cX1_powerHolds 46 = .ok (.iconst 0, 1) := by decide +kernel
theorem dX1_powerHolds_47 : decode cX1_powerHolds 47 = .ok (.ireturn, 1) := by decide +kernel
theorem dX1_writeAll_0 : decode cX1_writeAll 0 = .ok (.iconst 0, 1) := by decide +kernel
theorem dX1_writeAll_1 : decode cX1_writeAll 1 = .ok (.istore_n 3, 1) := by decide +kernel
theorem dX1_writeAll_2 : decode cX1_writeAll 2 = .ok (.iload_n 3, 1) := by decide +kernel
theorem dX1_writeAll_3 : decode cX1_writeAll 3 = .ok (.aload_n 2, 1) := by decide +kernel
theorem dX1_writeAll_4 : decode cX1_writeAll 4 = .ok (.invokevirtual 59, 3) := by decide +kernel
theorem dX1_writeAll_7 : decode cX1_writeAll 7 = .ok (.if_icmp .ge 21, 3) := by decide +kernel
theorem dX1_writeAll_10 : decode cX1_writeAll 10 = .ok (.aload_n 0, 1) := by decide +kernel
theorem dX1_writeAll_11 : decode cX1_writeAll 11 = .ok (.iload_n 1, 1) := by decide +kernel
theorem dX1_writeAll_12 : decode cX1_writeAll 12 = .ok (.iload_n 3, 1) := by decide +kernel
theorem dX1_writeAll_13 : decode cX1_writeAll 13 = .ok (.bipush 32, 2) := by decide +kernel
theorem dX1_writeAll_15 : decode cX1_writeAll 15 = .ok (.idiv, 1) := by decide +kernel
theorem dX1_writeAll_16 : decode cX1_writeAll 16 = .ok (.iadd, 1) := by decide +kernel
theorem dX1_writeAll_17 : decode cX1_writeAll 17 = .ok (.aload_n 2, 1) := by decide +kernel
theorem dX1_writeAll_18 : decode cX1_writeAll 18 = .ok (.iload_n 3, 1) := by decide +kernel
theorem dX1_writeAll_19 : decode cX1_writeAll 19 = .ok (.invokevirtual 63, 3) := by decide +kernel
theorem dX1_writeAll_22 : decode cX1_writeAll 22 = .ok (.iinc 3 32, 3) := by decide +kernel
theorem dX1_writeAll_25 : decode cX1_writeAll 25 = .ok (.goto (-23), 3) := by decide +kernel
theorem dX1_writeAll_28 : decode cX1_writeAll 28 = .ok (.return_, 1) := by decide +kernel
theorem dX1_eraseSlot_0 : decode cX1_eraseSlot 0 = .ok (.iconst 0, 1) := by decide +kernel
theorem dX1_eraseSlot_1 : decode cX1_eraseSlot 1 = .ok (.istore_n 2, 1) := by decide +kernel
theorem dX1_eraseSlot_2 : decode cX1_eraseSlot 2 = .ok (.iload_n 2, 1) := by decide +kernel
theorem dX1_eraseSlot_3 : decode cX1_eraseSlot 3 = .ok (.bipush 8, 2) := by decide +kernel
theorem dX1_eraseSlot_5 : decode cX1_eraseSlot 5 = .ok (.if_icmp .ge 22, 3) := by decide +kernel
theorem dX1_eraseSlot_8 : decode cX1_eraseSlot 8 = .ok (.aload_n 0, 1) := by decide +kernel
theorem dX1_eraseSlot_9 : decode cX1_eraseSlot 9 = .ok (.bipush 10, 2) := by decide +kernel
theorem dX1_eraseSlot_11 : decode cX1_eraseSlot 11 = .ok (.iload_n 1, 1) := by decide +kernel
theorem dX1_eraseSlot_12 : decode cX1_eraseSlot 12 = .ok (.bipush 8, 2) := by decide +kernel
theorem dX1_eraseSlot_14 : decode cX1_eraseSlot 14 = .ok (.imul, 1) := by decide +kernel
theorem dX1_eraseSlot_15 : decode cX1_eraseSlot 15 = .ok (.iadd, 1) := by decide +kernel
theorem dX1_eraseSlot_16 : decode cX1_eraseSlot 16 = .ok (.iload_n 2, 1) := by decide +kernel
theorem dX1_eraseSlot_17 : decode cX1_eraseSlot 17 = .ok (.iadd, 1) := by decide +kernel
theorem dX1_eraseSlot_18 : decode cX1_eraseSlot 18 = .ok (.invokevirtual 66, 3) := by decide +kernel
theorem dX1_eraseSlot_21 : decode cX1_eraseSlot 21 = .ok (.iinc 2 1, 3) := by decide +kernel
theorem dX1_eraseSlot_24 : decode cX1_eraseSlot 24 = .ok (.goto (-22), 3) := by decide +kernel
theorem dX1_eraseSlot_27 : decode cX1_eraseSlot 27 = .ok (.return_, 1) := by decide +kernel
theorem dX1_isBlank_0 : decode cX1_isBlank 0 = .ok (.iconst 0, 1) := by decide +kernel
theorem dX1_isBlank_1 : decode cX1_isBlank 1 = .ok (.istore_n 2, 1) := by decide +kernel
theorem dX1_isBlank_2 : decode cX1_isBlank 2 = .ok (.iload_n 2, 1) := by decide +kernel
theorem dX1_isBlank_3 : decode cX1_isBlank 3 = .ok (.bipush 32, 2) := by decide +kernel
theorem dX1_isBlank_5 : decode cX1_isBlank 5 = .ok (.if_icmp .ge 30, 3) := by decide +kernel
theorem dX1_isBlank_8 : decode cX1_isBlank 8 = .ok (.aload_n 0, 1) := by decide +kernel
theorem dX1_isBlank_9 : decode cX1_isBlank 9 = .ok (.getfield 14, 3) := by decide +kernel
theorem dX1_isBlank_12 : decode cX1_isBlank 12 = .ok (.iload_n 1, 1) := by decide +kernel
theorem dX1_isBlank_13 : decode cX1_isBlank 13 = .ok (.bipush 32, 2) := by decide +kernel
theorem dX1_isBlank_15 : decode cX1_isBlank 15 = .ok (.imul, 1) := by decide +kernel
theorem dX1_isBlank_16 : decode cX1_isBlank 16 = .ok (.iload_n 2, 1) := by decide +kernel
theorem dX1_isBlank_17 : decode cX1_isBlank 17 = .ok (.iadd, 1) := by decide +kernel
theorem dX1_isBlank_18 : decode cX1_isBlank 18 = .ok (.invokevirtual 56, 3) := by decide +kernel
theorem dX1_isBlank_21 : decode cX1_isBlank 21 = .ok (.sipush 255, 3) := by decide +kernel
theorem dX1_isBlank_24 : decode cX1_isBlank 24 = .ok (.if_icmp .eq 5, 3) := by decide +kernel
theorem dX1_isBlank_27 : decode cX1_isBlank 27 = .ok (.iconst 0, 1) := by decide +kernel
theorem dX1_isBlank_28 : decode cX1_isBlank 28 = .ok (.ireturn, 1) := by decide +kernel
theorem dX1_isBlank_29 : decode cX1_isBlank 29 = .ok (.iinc 2 1, 3) := by decide +kernel
theorem dX1_isBlank_32 : decode cX1_isBlank 32 = .ok (.goto (-30), 3) := by decide +kernel
theorem dX1_isBlank_35 : decode cX1_isBlank 35 = .ok (.iconst 1, 1) := by decide +kernel
theorem dX1_isBlank_36 : decode cX1_isBlank 36 = .ok (.ireturn, 1) := by decide +kernel
theorem dX1_programHash_0 : decode cX1_programHash 0 = .ok (.aload_n 0, 1) := by decide +kernel
theorem dX1_programHash_1 : decode cX1_programHash 1 = .ok (.getfield 14, 3) := by decide +kernel
theorem dX1_programHash_4 : decode cX1_programHash 4 = .ok (.iload_n 1, 1) := by decide +kernel
theorem dX1_programHash_5 : decode cX1_programHash 5 = .ok (.invokestatic 40, 3) := by decide +kernel
theorem dX1_programHash_8 : decode cX1_programHash 8 = .ok (.iload_n 2, 1) := by decide +kernel
theorem dX1_programHash_9 : decode cX1_programHash 9 = .ok (.invokevirtual 69, 3) := by decide +kernel
theorem dX1_programHash_12 : decode cX1_programHash 12 = .ok (.invokestatic 73, 3) := by decide +kernel
theorem dX1_programHash_15 : decode cX1_programHash 15 = .ok (.lreturn, 1) := by decide +kernel
theorem dX1_lowest_0 : decode cX1_lowest 0 = .ok (.lload_n 0, 1) := by decide +kernel
theorem dX1_lowest_1 : decode cX1_lowest 1 = .ok (.ldc2_w 77, 3) := by decide +kernel
theorem dX1_lowest_4 : decode cX1_lowest 4 = .ok (.land, 1) := by decide +kernel
theorem dX1_lowest_5 : decode cX1_lowest 5 = .ok (.lreturn, 1) := by decide +kernel
theorem dX1_lastWrittenPiece_0 : decode cX1_lastWrittenPiece 0 = .ok (.iload_n 2, 1) := by decide +kernel
theorem dX1_lastWrittenPiece_1 : decode cX1_lastWrittenPiece 1 = .ok (.iconst 1, 1) := by decide +kernel
theorem dX1_lastWrittenPiece_2 : decode cX1_lastWrittenPiece 2 = .ok (.isub, 1) := by decide +kernel
theorem dX1_lastWrittenPiece_3 : decode cX1_lastWrittenPiece 3 = .ok (.istore_n 3, 1) := by decide +kernel
theorem dX1_lastWrittenPiece_4 : decode cX1_lastWrittenPiece 4 = .ok (.iload_n 3, 1) := by decide +kernel
theorem dX1_lastWrittenPiece_5 : decode cX1_lastWrittenPiece 5 = .ok (.ifCond .lt 33, 3) := by decide +kernel
theorem dX1_lastWrittenPiece_8 : decode cX1_lastWrittenPiece 8 = .ok (.aload_n 0, 1) := by decide +kernel
theorem dX1_lastWrittenPiece_9 : decode cX1_lastWrittenPiece 9 = .ok (.getfield 14, 3) := by decide +kernel
theorem dX1_lastWrittenPiece_12 : decode cX1_lastWrittenPiece 12 = .ok (.iload_n 1, 1) := by decide +kernel
theorem dX1_lastWrittenPiece_13 : decode cX1_lastWrittenPiece 13 = .ok (.invokestatic 40, 3) := by decide +kernel
theorem dX1_lastWrittenPiece_16 : decode cX1_lastWrittenPiece 16 = .ok (.iload_n 3, 1) := by decide +kernel
theorem dX1_lastWrittenPiece_17 : decode cX1_lastWrittenPiece 17 = .ok (.iadd, 1) := by decide +kernel
theorem dX1_lastWrittenPiece_18 : decode cX1_lastWrittenPiece 18 = .ok (.invokevirtual 56, 3) := by decide +kernel
theorem dX1_lastWrittenPiece_21 : decode cX1_lastWrittenPiece 21 = .ok (.sipush 255, 3) := by decide +kernel
theorem dX1_lastWrittenPiece_24 : decode cX1_lastWrittenPiece 24 = .ok (.if_icmp .eq 8, 3) := by decide +kernel
theorem dX1_lastWrittenPiece_27 : decode cX1_lastWrittenPiece 27 = .ok (.iload_n 3, 1) := by decide +kernel
theorem dX1_lastWrittenPiece_28 : decode cX1_lastWrittenPiece 28 = .ok (.bipush 64, 2) := by decide +kernel
theorem dX1_lastWrittenPiece_30 : decode cX1_lastWrittenPiece 30 = .ok (.idiv, 1) := by decide +kernel
theorem dX1_lastWrittenPiece_31 : decode cX1_lastWrittenPiece 31 = .ok (.ireturn, 1) := by decide +kernel
theorem dX1_lastWrittenPiece_32 : decode cX1_lastWrittenPiece 32 = .ok (.iinc 3 (-1), 3) := by decide +kernel
theorem dX1_lastWrittenPiece_35 : decode cX1_lastWrittenPiece 35 = .ok (.goto (-31), 3) := by decide +kernel
theorem dX1_lastWrittenPiece_38 : decode cX1_lastWrittenPiece 38 = .ok (.iconst 0, 1) := by decide +kernel
theorem dX1_lastWrittenPiece_39 : decode cX1_lastWrittenPiece 39 = .ok (.ireturn, 1) := by decide +kernel
theorem dX2_init_0 : decode cX2_init 0 = .ok (.aload_n 0, 1) := by decide +kernel
theorem dX2_init_1 : decode cX2_init 1 = .ok (.invokespecial 3, 3) := by decide +kernel
theorem dX2_init_4 : decode cX2_init 4 = .ok (.aload_n 0, 1) := by decide +kernel
theorem dX2_init_5 : decode cX2_init 5 = .ok (.iconst 0, 1) := by decide +kernel
theorem dX2_init_6 : decode cX2_init 6 = .ok (.putfield 9, 3) := by decide +kernel
theorem dX2_init_9 : decode cX2_init 9 = .ok (.aload_n 0, 1) := by decide +kernel
theorem dX2_init_10 : decode cX2_init 10 = .ok (.iconst 0, 1) := by decide +kernel
theorem dX2_init_11 : decode cX2_init 11 = .ok (.putfield 15, 3) := by decide +kernel
theorem dX2_init_14 : decode cX2_init 14 = .ok (.aload_n 0, 1) := by decide +kernel
theorem dX2_init_15 : decode cX2_init 15 = .ok (.aload_n 1, 1) := by decide +kernel
theorem dX2_init_16 : decode cX2_init 16 = .ok (.putfield 19, 3) := by decide +kernel
theorem dX2_init_19 : decode cX2_init 19 = .ok (.aload_n 0, 1) := by decide +kernel
theorem dX2_init_20 : decode cX2_init 20 = .ok (.aload_n 2, 1) := by decide +kernel
theorem dX2_init_21 : decode cX2_init 21 = .ok (.putfield 23, 3) := by decide +kernel
theorem dX2_init_24 : decode cX2_init 24 = .ok (.return_, 1) := by decide +kernel
theorem dX2_isSettled_0 : decode cX2_isSettled 0 = .ok (.aload_n 0, 1) := by decide +kernel
theorem dX2_isSettled_1 : decode cX2_isSettled 1 = .ok (.getfield 9, 3) := by decide +kernel
theorem dX2_isSettled_4 : decode cX2_isSettled 4 = .ok (.ifCond .le 14, 3) := by decide +kernel
theorem dX2_isSettled_7 : decode cX2_isSettled 7 = .ok (.aload_n 0, 1) := by decide +kernel
theorem dX2_isSettled_8 : decode cX2_isSettled 8 = .ok (.getfield 15, 3) := by decide +kernel
theorem dX2_isSettled_11 : decode cX2_isSettled 11 = .ok (.ifCond .ne 7, 3) := by decide +kernel
theorem dX2_isSettled_14 : decode cX2_isSettled 14 = .ok (.iconst 1, 1) := by decide +kernel
theorem dX2_isSettled_15 : decode cX2_isSettled 15 = .ok (.goto 4, 3) := by decide +kernel
theorem dX2_isSettled_18 : decode cX2_isSettled 18 = .ok (.iconst 0, 1) := by decide +kernel
theorem dX2_isSettled_19 : decode cX2_isSettled 19 = .ok (.ireturn, 1) := by decide +kernel
theorem dX2_halt_0 : decode cX2_halt 0 = .ok (.aload_n 0, 1) := by decide +kernel
theorem dX2_halt_1 : decode cX2_halt 1 = .ok (.iconst 0, 1) := by decide +kernel
theorem dX2_halt_2 : decode cX2_halt 2 = .ok (.putfield 9, 3) := by decide +kernel
theorem dX2_halt_5 : decode cX2_halt 5 = .ok (.aload_n 0, 1) := by decide +kernel
theorem dX2_halt_6 : decode cX2_halt 6 = .ok (.iconst 0, 1) := by decide +kernel
theorem dX2_halt_7 : decode cX2_halt 7 = .ok (.putfield 15, 3) := by decide +kernel
theorem dX2_halt_10 : decode cX2_halt 10 = .ok (.return_, 1) := by decide +kernel
theorem dX2_start_0 : decode cX2_start 0 = .ok (.aload_n 0, 1) := by decide +kernel
theorem dX2_start_1 : decode cX2_start 1 = .ok (.invokevirtual 27, 3) := by decide +kernel
theorem dX2_start_4 : decode cX2_start 4 = .ok (.aload_n 0, 1) := by decide +kernel
theorem dX2_start_5 : decode cX2_start 5 = .ok (.getfield 23, 3) := by decide +kernel
theorem dX2_start_8 : decode cX2_start 8 = .ok (.getfield 30, 3) := by decide +kernel
theorem dX2_start_11 : decode cX2_start 11 = .ok (.iconst 2, 1) := by decide +kernel
theorem dX2_start_12 : decode cX2_start 12 = .ok (.if_icmp .ne 8, 3) := by decide +kernel
theorem dX2_start_15 : decode cX2_start 15 = .ok (.aload_n 0, 1) := by decide +kernel
theorem dX2_start_16 : decode cX2_start 16 = .ok (.invokevirtual 35, 3) := by decide +kernel
theorem dX2_start_19 : decode cX2_start 19 = .ok (.ireturn, 1) := by decide +kernel
theorem dX2_start_20 : decode cX2_start 20 = .ok (.aload_n 0, 1) := by decide +kernel
theorem dX2_start_21 : decode cX2_start 21 = .ok (.getfield 23, 3) := by decide +kernel
theorem dX2_start_24 : decode cX2_start 24 = .ok (.getfield 30, 3) := by decide +kernel
theorem dX2_start_27 : decode cX2_start 27 = .ok (.iconst 3, 1) := by decide +kernel
theorem dX2_start_28 : decode cX2_start 28 = .ok (.if_icmp .ne 17, 3) := by decide +kernel
theorem dX2_start_31 : decode cX2_start 31 = .ok (.aload_n 0, 1) := by decide +kernel
theorem dX2_start_32 : decode cX2_start 32 = .ok (.getfield 23, 3) := by decide +kernel
theorem dX2_start_35 : decode cX2_start 35 = .ok (.invokevirtual 39, 3) := by decide +kernel
theorem dX2_start_38 : decode cX2_start 38 = .ok (.aload_n 0, 1) := by decide +kernel
theorem dX2_start_39 : decode cX2_start 39 = .ok (.getfield 23, 3) := by decide +kernel
theorem dX2_start_42 : decode cX2_start 42 = .ok (.invokevirtual 42, 3) := by decide +kernel
theorem dX2_start_45 : decode cX2_start 45 = .ok (.aload_n 0, 1) := by decide +kernel
theorem dX2_start_46 : decode cX2_start 46 = .ok (.invokevirtual 45, 3) := by decide +kernel
theorem dX2_start_49 : decode cX2_start 49 = .ok (.ireturn, 1) := by decide +kernel
theorem dX2_startTrial_0 : decode cX2_startTrial 0 = .ok (.aload_n 0, 1) := by decide +kernel
theorem dX2_startTrial_1 : decode cX2_startTrial 1 = .ok (.getfield 23, 3) := by decide +kernel
theorem dX2_startTrial_4 : decode cX2_startTrial 4 = .ok (.iconst 3, 1) := by decide +kernel
theorem dX2_startTrial_5 : decode cX2_startTrial 5 = .ok (.putfield 30, 3) := by decide +kernel
theorem dX2_startTrial_8 : decode cX2_startTrial 8 = .ok (.aload_n 0, 1) := by decide +kernel
theorem dX2_startTrial_9 : decode cX2_startTrial 9 = .ok (.getfield 23, 3) := by decide +kernel
theorem dX2_startTrial_12 : decode cX2_startTrial 12 = .ok (.invokevirtual 42, 3) := by decide +kernel
theorem dX2_startTrial_15 : decode cX2_startTrial 15 = .ok (.aload_n 0, 1) := by decide +kernel
theorem dX2_startTrial_16 : decode cX2_startTrial 16 = .ok (.getfield 19, 3) := by decide +kernel
theorem dX2_startTrial_19 : decode cX2_startTrial 19 = .ok (.invokevirtual 48, 3) := by decide +kernel
theorem dX2_startTrial_22 : decode cX2_startTrial 22 = .ok (.ifCond .eq 6, 3) := by decide +kernel
theorem dX2_startTrial_25 : decode cX2_startTrial 25 = .ok (.bipush (-3), 2) := by decide +kernel
theorem dX2_startTrial_27 : decode cX2_startTrial 27 = .ok (.ireturn, 1) := by decide +kernel
theorem dX2_startTrial_28 : decode cX2_startTrial 28 = .ok (.aload_n 0, 1) := by decide +kernel
theorem dX2_startTrial_29 : decode cX2_startTrial 29 = .ok (.getfield 19, 3) := by decide +kernel
theorem dX2_startTrial_32 : decode cX2_startTrial 32 = .ok (.aload_n 0, 1) := by decide +kernel
theorem dX2_startTrial_33 : decode cX2_startTrial 33 = .ok (.getfield 23, 3) := by decide +kernel
theorem dX2_startTrial_36 : decode cX2_startTrial 36 = .ok (.invokevirtual 54, 3) := by decide +kernel
theorem dX2_startTrial_39 : decode cX2_startTrial 39 = .ok (.aload_n 0, 1) := by decide +kernel
theorem dX2_startTrial_40 : decode cX2_startTrial 40 = .ok (.getfield 23, 3) := by decide +kernel
theorem dX2_startTrial_43 : decode cX2_startTrial 43 = .ok (.getfield 57, 3) := by decide +kernel
theorem dX2_startTrial_46 : decode cX2_startTrial 46 = .ok (.invokevirtual 60, 3) := by decide +kernel
theorem dX2_startTrial_49 : decode cX2_startTrial 49 = .ok (.aload_n 0, 1) := by decide +kernel
theorem dX2_startTrial_50 : decode cX2_startTrial 50 = .ok (.getfield 23, 3) := by decide +kernel
theorem dX2_startTrial_53 : decode cX2_startTrial 53 = .ok (.getfield 64, 3) := by decide +kernel
theorem dX2_startTrial_56 : decode cX2_startTrial 56 = .ok (.lcmp, 1) := by decide +kernel
theorem dX2_startTrial_57 : decode cX2_startTrial 57 = .ok (.ifCond .ne 24, 3) := by decide +kernel
theorem dX2_startTrial_60 : decode cX2_startTrial 60 = .ok (.aload_n 0, 1) := by decide +kernel
theorem dX2_startTrial_61 : decode cX2_startTrial 61 = .ok (.aload_n 0, 1) := by decide +kernel
theorem dX2_startTrial_62 : decode cX2_startTrial 62 = .ok (.getfield 23, 3) := by decide +kernel
theorem dX2_startTrial_65 : decode cX2_startTrial 65 = .ok (.getfield 68, 3) := by decide +kernel
theorem dX2_startTrial_68 : decode cX2_startTrial 68 = .ok (.putfield 9, 3) := by decide +kernel
theorem dX2_startTrial_71 : decode cX2_startTrial 71 = .ok (.aload_n 0, 1) := by decide +kernel
theorem dX2_startTrial_72 : decode cX2_startTrial 72 = .ok (.iconst 1, 1) := by decide +kernel
theorem dX2_startTrial_73 : decode cX2_startTrial 73 = .ok (.putfield 15, 3) := by decide +kernel
theorem dX2_startTrial_76 : decode cX2_startTrial 76 = .ok (.aload_n 0, 1) := by decide +kernel
theorem dX2_startTrial_77 : decode cX2_startTrial 77 = .ok (.getfield 9, 3) := by decide +kernel
theorem dX2_startTrial_80 : decode cX2_startTrial 80 = .ok (.ireturn, 1) := by decide +kernel
theorem dX2_startTrial_81 : decode cX2_startTrial 81 = .ok (.aload_n 0, 1) := by decide +kernel
theorem dX2_startTrial_82 : decode cX2_startTrial 82 = .ok (.getfield 23, 3) := by decide +kernel
theorem dX2_startTrial_85 : decode cX2_startTrial 85 = .ok (.invokevirtual 39, 3) := by decide +kernel
theorem dX2_startTrial_88 : decode cX2_startTrial 88 = .ok (.aload_n 0, 1) := by decide +kernel
theorem dX2_startTrial_89 : decode cX2_startTrial 89 = .ok (.getfield 23, 3) := by decide +kernel
theorem dX2_startTrial_92 : decode cX2_startTrial 92 = .ok (.invokevirtual 42, 3) := by decide +kernel
theorem dX2_startTrial_95 : decode cX2_startTrial 95 = .ok (.aload_n 0, 1) := by decide +kernel
theorem dX2_startTrial_96 : decode cX2_startTrial 96 = .ok (.invokevirtual 45, 3) := by decide +kernel
theorem dX2_startTrial_99 : decode cX2_startTrial 99 = .ok (.ireturn, 1) := by decide +kernel
theorem dX2_startConfirmed_0 : decode cX2_startConfirmed 0 = .ok (.aload_n 0, 1) := by decide +kernel
theorem dX2_startConfirmed_1 : decode cX2_startConfirmed 1 = .ok (.getfield 19, 3) := by decide +kernel
theorem dX2_startConfirmed_4 : decode cX2_startConfirmed 4 = .ok (.invokevirtual 48, 3) := by decide +kernel
theorem dX2_startConfirmed_7 : decode cX2_startConfirmed 7 = .ok (.ifCond .eq 6, 3) := by decide +kernel
theorem dX2_startConfirmed_10 : decode cX2_startConfirmed 10 = .ok (.bipush (-3), 2) := by decide +kernel
theorem dX2_startConfirmed_12 : decode cX2_startConfirmed 12 = .ok (.ireturn, 1) := by decide +kernel
theorem dX2_startConfirmed_13 : decode cX2_startConfirmed 13 = .ok (.aload_n 0, 1) := by decide +kernel
theorem dX2_startConfirmed_14 : decode cX2_startConfirmed 14 = .ok (.getfield 19, 3) := by decide +kernel
theorem dX2_startConfirmed_17 : decode cX2_startConfirmed 17 = .ok (.aload_n 0, 1) := by decide +kernel
theorem dX2_startConfirmed_18 : decode cX2_startConfirmed 18 = .ok (.getfield 23, 3) := by decide +kernel
theorem dX2_startConfirmed_21 : decode cX2_startConfirmed 21 = .ok (.getfield 71, 3) := by decide +kernel
theorem dX2_startConfirmed_24 : decode cX2_startConfirmed 24 = .ok (.aload_n 0, 1) := by decide +kernel
theorem dX2_startConfirmed_25 : decode cX2_startConfirmed 25 = .ok (.getfield 23, 3) := by decide +kernel
theorem dX2_startConfirmed_28 : decode cX2_startConfirmed 28 = .ok (.getfield 74, 3) := by decide +kernel
theorem dX2_startConfirmed_31 : decode cX2_startConfirmed 31 = .ok (.invokevirtual 60, 3) := by decide +kernel
theorem dX2_startConfirmed_34 : decode cX2_startConfirmed 34 = .ok (.aload_n 0, 1) := by decide +kernel
theorem dX2_startConfirmed_35 : decode cX2_startConfirmed 35 = .ok (.getfield 23, 3) := by decide +kernel
theorem dX2_startConfirmed_38 : decode cX2_startConfirmed 38 = .ok (.getfield 77, 3) := by decide +kernel
theorem dX2_startConfirmed_41 : decode cX2_startConfirmed 41 = .ok (.lcmp, 1) := by decide +kernel
theorem dX2_startConfirmed_42 : decode cX2_startConfirmed 42 = .ok (.ifCond .eq 6, 3) := by decide +kernel
theorem dX2_startConfirmed_45 : decode cX2_startConfirmed 45 = .ok (.bipush (-2), 2) := by decide +kernel
theorem dX2_startConfirmed_47 : decode cX2_startConfirmed 47 = .ok (.ireturn, 1) := by decide +kernel
theorem dX2_startConfirmed_48 : decode cX2_startConfirmed 48 = .ok (.aload_n 0, 1) := by decide +kernel
theorem dX2_startConfirmed_49 : decode cX2_startConfirmed 49 = .ok (.aload_n 0, 1) := by decide +kernel
theorem dX2_startConfirmed_50 : decode cX2_startConfirmed 50 = .ok (.getfield 23, 3) := by decide +kernel
theorem dX2_startConfirmed_53 : decode cX2_startConfirmed 53 = .ok (.getfield 80, 3) := by decide +kernel
theorem dX2_startConfirmed_56 : decode cX2_startConfirmed 56 = .ok (.putfield 9, 3) := by decide +kernel
theorem dX2_startConfirmed_59 : decode cX2_startConfirmed 59 = .ok (.aload_n 0, 1) := by decide +kernel
theorem dX2_startConfirmed_60 : decode cX2_startConfirmed 60 = .ok (.getfield 9, 3) := by decide +kernel
theorem dX2_startConfirmed_63 : decode cX2_startConfirmed 63 = .ok (.ireturn, 1) := by decide +kernel
theorem dX2_confirm_0 : decode cX2_confirm 0 = .ok (.aload_n 0, 1) := by decide +kernel
theorem dX2_confirm_1 : decode cX2_confirm 1 = .ok (.getfield 23, 3) := by decide +kernel
theorem dX2_confirm_4 : decode cX2_confirm 4 = .ok (.invokevirtual 83, 3) := by decide +kernel
theorem dX2_confirm_7 : decode cX2_confirm 7 = .ok (.aload_n 0, 1) := by decide +kernel
theorem dX2_confirm_8 : decode cX2_confirm 8 = .ok (.getfield 23, 3) := by decide +kernel
theorem dX2_confirm_11 : decode cX2_confirm 11 = .ok (.invokevirtual 42, 3) := by decide +kernel
theorem dX2_confirm_14 : decode cX2_confirm 14 = .ok (.aload_n 0, 1) := by decide +kernel
theorem dX2_confirm_15 : decode cX2_confirm 15 = .ok (.iconst 0, 1) := by decide +kernel
theorem dX2_confirm_16 : decode cX2_confirm 16 = .ok (.putfield 15, 3) := by decide +kernel
theorem dX2_confirm_19 : decode cX2_confirm 19 = .ok (.aload_n 0, 1) := by decide +kernel
theorem dX2_confirm_20 : decode cX2_confirm 20 = .ok (.getfield 9, 3) := by decide +kernel
theorem dX2_confirm_23 : decode cX2_confirm 23 = .ok (.ireturn, 1) := by decide +kernel
theorem dX2_reject_0 : decode cX2_reject 0 = .ok (.aload_n 0, 1) := by decide +kernel
theorem dX2_reject_1 : decode cX2_reject 1 = .ok (.getfield 23, 3) := by decide +kernel
theorem dX2_reject_4 : decode cX2_reject 4 = .ok (.invokevirtual 39, 3) := by decide +kernel
theorem dX2_reject_7 : decode cX2_reject 7 = .ok (.aload_n 0, 1) := by decide +kernel
theorem dX2_reject_8 : decode cX2_reject 8 = .ok (.getfield 23, 3) := by decide +kernel
theorem dX2_reject_11 : decode cX2_reject 11 = .ok (.invokevirtual 42, 3) := by decide +kernel
theorem dX2_reject_14 : decode cX2_reject 14 = .ok (.aload_n 0, 1) := by decide +kernel
theorem dX2_reject_15 : decode cX2_reject 15 = .ok (.invokevirtual 27, 3) := by decide +kernel
theorem dX2_reject_18 : decode cX2_reject 18 = .ok (.aload_n 0, 1) := by decide +kernel
theorem dX2_reject_19 : decode cX2_reject 19 = .ok (.getfield 9, 3) := by decide +kernel
theorem dX2_reject_22 : decode cX2_reject 22 = .ok (.ireturn, 1) := by decide +kernel
theorem dX3_init_0 : decode cX3_init 0 = .ok (.aload_n 0, 1) := by decide +kernel
theorem dX3_init_1 : decode cX3_init 1 = .ok (.invokespecial 3, 3) := by decide +kernel
theorem dX3_init_4 : decode cX3_init 4 = .ok (.aload_n 0, 1) := by decide +kernel
theorem dX3_init_5 : decode cX3_init 5 = .ok (.getstatic 9, 3) := by decide +kernel
theorem dX3_init_8 : decode cX3_init 8 = .ok (.invokevirtual 13, 3) := by decide +kernel
theorem dX3_init_11 : decode cX3_init 11 = .ok (.checkcast 14, 3) := by decide +kernel
theorem dX3_init_14 : decode cX3_init 14 = .ok (.putfield 18, 3) := by decide +kernel
theorem dX3_init_17 : decode cX3_init 17 = .ok (.aload_n 0, 1) := by decide +kernel
theorem dX3_init_18 : decode cX3_init 18 = .ok (.getstatic 23, 3) := by decide +kernel
theorem dX3_init_21 : decode cX3_init 21 = .ok (.invokevirtual 13, 3) := by decide +kernel
theorem dX3_init_24 : decode cX3_init 24 = .ok (.checkcast 14, 3) := by decide +kernel
theorem dX3_init_27 : decode cX3_init 27 = .ok (.putfield 26, 3) := by decide +kernel
theorem dX3_init_30 : decode cX3_init 30 = .ok (.aload_n 0, 1) := by decide +kernel
theorem dX3_init_31 : decode cX3_init 31 = .ok (.iconst 0, 1) := by decide +kernel
theorem dX3_init_32 : decode cX3_init 32 = .ok (.putfield 29, 3) := by decide +kernel
theorem dX3_init_35 : decode cX3_init 35 = .ok (.aload_n 0, 1) := by decide +kernel
theorem dX3_init_36 : decode cX3_init 36 = .ok (.iconst 4, 1) := by decide +kernel
theorem dX3_init_37 : decode cX3_init 37 = .ok (.newarray .int, 2) := by decide +kernel
theorem dX3_init_39 : decode cX3_init 39 = .ok (.putfield 33, 3) := by decide +kernel
theorem dX3_init_42 : decode cX3_init 42 = .ok (.aload_n 0, 1) := by decide +kernel
theorem dX3_init_43 : decode cX3_init 43 = .ok (.iconst 4, 1) := by decide +kernel
theorem dX3_init_44 : decode cX3_init 44 = .ok (.newarray .int, 2) := by decide +kernel
theorem dX3_init_46 : decode cX3_init 46 = .ok (.putfield 36, 3) := by decide +kernel
theorem dX3_init_49 : decode cX3_init 49 = .ok (.aload_n 0, 1) := by decide +kernel
theorem dX3_init_50 : decode cX3_init 50 = .ok (.iconst 4, 1) := by decide +kernel
theorem dX3_init_51 : decode cX3_init 51 = .ok (.newarray .int, 2) := by decide +kernel
theorem dX3_init_53 : decode cX3_init 53 = .ok (.putfield 39, 3) := by decide +kernel
theorem dX3_init_56 : decode cX3_init 56 = .ok (.aload_n 0, 1) := by decide +kernel
theorem dX3_init_57 : decode cX3_init 57 = .ok (.iconst 4, 1) := by decide +kernel
theorem dX3_init_58 : decode cX3_init 58 = .ok (.newarray .long, 2) := by decide +kernel
theorem dX3_init_60 : decode cX3_init 60 = .ok (.putfield 42, 3) := by decide +kernel
theorem dX3_init_63 : decode cX3_init 63 = .ok (.aload_n 0, 1) := by decide +kernel
theorem dX3_init_64 : decode cX3_init 64 = .ok (.new 46, 3) := by decide +kernel
theorem dX3_init_67 : decode cX3_init 67 = .ok (.dup, 1) := by decide +kernel
theorem dX3_init_68 : decode cX3_init 68 = .ok (.sipush 1024, 3) := by decide +kernel
theorem dX3_init_71 : decode cX3_init 71 = .ok (.invokespecial 48, 3) := by decide +kernel
theorem dX3_init_74 : decode cX3_init 74 = .ok (.putfield 51, 3) := by decide +kernel
theorem dX3_init_77 : decode cX3_init 77 = .ok (.aload_n 0, 1) := by decide +kernel
theorem dX3_init_78 : decode cX3_init 78 = .ok (.new 46, 3) := by decide +kernel
theorem dX3_init_81 : decode cX3_init 81 = .ok (.dup, 1) := by decide +kernel
theorem dX3_init_82 : decode cX3_init 82 = .ok (.bipush 55, 2) := by decide +kernel
theorem dX3_init_84 : decode cX3_init 84 = .ok (.invokespecial 48, 3) := by decide +kernel
theorem dX3_init_87 : decode cX3_init 87 = .ok (.putfield 55, 3) := by decide +kernel
theorem dX3_init_90 : decode cX3_init 90 = .ok (.aload_n 0, 1) := by decide +kernel
theorem dX3_init_91 : decode cX3_init 91 = .ok (.iconst (-1), 1) := by decide +kernel
theorem dX3_init_92 : decode cX3_init 92 = .ok (.putfield 58, 3) := by decide +kernel
theorem dX3_init_95 : decode cX3_init 95 = .ok (.aload_n 0, 1) := by decide +kernel
theorem dX3_init_96 : decode cX3_init 96 = .ok (.iconst 0, 1) := by decide +kernel
theorem dX3_init_97 : decode cX3_init 97 = .ok (.putfield 61, 3) := by decide +kernel
theorem dX3_init_100 : decode cX3_init 100 = .ok (.aload_n 0, 1) := by decide +kernel
theorem dX3_init_101 : decode cX3_init 101 = .ok (.iconst 4, 1) := by decide +kernel
theorem dX3_init_102 : decode cX3_init 102 = .ok (.newarray .int, 2) := by decide +kernel
theorem dX3_init_104 : decode cX3_init 104 = .ok (.dup, 1) := by decide +kernel
theorem dX3_init_105 : decode cX3_init 105 = .ok (.iconst 0, 1) := by decide +kernel
theorem dX3_init_106 : decode cX3_init 106 = .ok (.iconst 1, 1) := by decide +kernel
theorem dX3_init_107 : decode cX3_init 107 = .ok (.iastore, 1) := by decide +kernel
theorem dX3_init_108 : decode cX3_init 108 = .ok (.dup, 1) := by decide +kernel
theorem dX3_init_109 : decode cX3_init 109 = .ok (.iconst 1, 1) := by decide +kernel
theorem dX3_init_110 : decode cX3_init 110 = .ok (.iconst 1, 1) := by decide +kernel
theorem dX3_init_111 : decode cX3_init 111 = .ok (.iastore, 1) := by decide +kernel
theorem dX3_init_112 : decode cX3_init 112 = .ok (.dup, 1) := by decide +kernel
theorem dX3_init_113 : decode cX3_init 113 = .ok (.iconst 2, 1) := by decide +kernel
theorem dX3_init_114 : decode cX3_init 114 = .ok (.iconst 1, 1) := by decide +kernel
theorem dX3_init_115 : decode cX3_init 115 = .ok (.iastore, 1) := by decide +kernel
theorem dX3_init_116 : decode cX3_init 116 = .ok (.dup, 1) := by decide +kernel
theorem dX3_init_117 : decode cX3_init 117 = .ok (.iconst 3, 1) := by decide +kernel
theorem dX3_init_118 : decode cX3_init 118 = .ok (.iconst 1, 1) := by decide +kernel
theorem dX3_init_119 : decode cX3_init 119 = .ok (.iastore, 1) := by decide +kernel
theorem dX3_init_120 : decode cX3_init 120 = .ok (.putfield 64, 3) := by decide +kernel
theorem dX3_init_123 : decode cX3_init 123 = .ok (.aload_n 0, 1) := by decide +kernel
theorem dX3_init_124 : decode cX3_init 124 = .ok (.iconst 4, 1) := by decide +kernel
theorem dX3_init_125 : decode cX3_init 125 = .ok (.newarray .long, 2) := by decide +kernel
theorem dX3_init_127 : decode cX3_init 127 = .ok (.putfield 67, 3) := by decide +kernel
theorem dX3_init_130 : decode cX3_init 130 = .ok (.aload_n 0, 1) := by decide +kernel
theorem dX3_init_131 : decode cX3_init 131 = .ok (.aload_n 1, 1) := by decide +kernel
theorem dX3_init_132 : decode cX3_init 132 = .ok (.putfield 70, 3) := by decide +kernel
theorem dX3_init_135 : decode cX3_init 135 = .ok (.return_, 1) := by decide +kernel
theorem dX3_planRole_0 : decode cX3_planRole 0 = .ok (.iload_n 2, 1) := by decide +kernel
theorem dX3_planRole_1 : decode cX3_planRole 1 = .ok (.invokestatic 74, 3) := by decide +kernel
theorem dX3_planRole_4 : decode cX3_planRole 4 = .ok (.istore 4, 2) := by decide +kernel
theorem dX3_planRole_6 : decode cX3_planRole 6 = .ok (.iload_n 1, 1) := by decide +kernel
theorem dX3_planRole_7 : decode cX3_planRole 7 = .ok (.ifCond .lt 25, 3) := by decide +kernel
theorem dX3_planRole_10 : decode cX3_planRole 10 = .ok (.iload_n 1, 1) := by decide +kernel
theorem dX3_planRole_11 : decode cX3_planRole 11 = .ok (.iconst 4, 1) := by decide +kernel
theorem dX3_planRole_12 : decode cX3_planRole 12 = .ok (.if_icmp .ge 20, 3) := by decide +kernel
theorem dX3_planRole_15 : decode cX3_planRole 15 = .ok (.iload_n 2, 1) := by decide +kernel
theorem dX3_planRole_16 : decode cX3_planRole 16 = .ok (.iconst 1, 1) := by decide +kernel
theorem dX3_planRole_17 : decode cX3_planRole 17 = .ok (.if_icmp .lt 15, 3) := by decide +kernel
theorem dX3_planRole_20 : decode cX3_planRole 20 = .ok (.iload_n 2, 1) := by decide +kernel
theorem dX3_planRole_21 : decode cX3_planRole 21 = .ok (.ldc 80, 2) := by decide +kernel
theorem dX3_planRole_23 : decode cX3_planRole 23 = .ok (.if_icmp .ge 9, 3) := by decide +kernel
theorem dX3_planRole_26 : decode cX3_planRole 26 = .ok (.iload 4, 2) := by decide +kernel
theorem dX3_planRole_28 : decode cX3_planRole 28 = .ok (.iconst 5, 1) := by decide +kernel
theorem dX3_planRole_29 : decode cX3_planRole 29 = .ok (.if_icmp .le 5, 3) := by decide +kernel
theorem dX3_planRole_32 : decode cX3_planRole 32 = .ok (.iconst (-1), 1) := by decide +kernel
theorem dX3_planRole_33 : decode cX3_planRole 33 = .ok (.ireturn, 1) := by decide +kernel
theorem dX3_planRole_34 : decode cX3_planRole 34 = .ok (.iload_n 3, 1) := by decide +kernel
theorem dX3_planRole_35 : decode cX3_planRole 35 = .ok (.iconst 1, 1) := by decide +kernel
theorem dX3_planRole_36 : decode cX3_planRole 36 = .ok (.if_icmp .lt 9, 3) := by decide +kernel
theorem dX3_planRole_39 : decode cX3_planRole 39 = .ok (.iload_n 3, 1) := by decide +kernel
theorem dX3_planRole_40 : decode cX3_planRole 40 = .ok (.iload 4, 2) := by decide +kernel
theorem dX3_planRole_42 : decode cX3_planRole 42 = .ok (.if_icmp .le 5, 3) := by decide +kernel
theorem dX3_planRole_45 : decode cX3_planRole 45 = .ok (.iconst (-1), 1) := by decide +kernel
theorem dX3_planRole_46 : decode cX3_planRole 46 = .ok (.ireturn, 1) := by decide +kernel
theorem dX3_planRole_47 : decode cX3_planRole 47 = .ok (.aload_n 0, 1) := by decide +kernel
theorem dX3_planRole_48 : decode cX3_planRole 48 = .ok (.getfield 18, 3) := by decide +kernel
theorem dX3_planRole_51 : decode cX3_planRole 51 = .ok (.iload_n 1, 1) := by decide +kernel
theorem dX3_planRole_52 : decode cX3_planRole 52 = .ok (.iload_n 2, 1) := by decide +kernel
theorem dX3_planRole_53 : decode cX3_planRole 53 = .ok (.iastore, 1) := by decide +kernel
theorem dX3_planRole_54 : decode cX3_planRole 54 = .ok (.aload_n 0, 1) := by decide +kernel
theorem dX3_planRole_55 : decode cX3_planRole 55 = .ok (.getfield 26, 3) := by decide +kernel
theorem dX3_planRole_58 : decode cX3_planRole 58 = .ok (.iload_n 1, 1) := by decide +kernel
theorem dX3_planRole_59 : decode cX3_planRole 59 = .ok (.iload_n 3, 1) := by decide +kernel
theorem dX3_planRole_60 : decode cX3_planRole 60 = .ok (.iastore, 1) := by decide +kernel
theorem dX3_planRole_61 : decode cX3_planRole 61 = .ok (.iconst 1, 1) := by decide +kernel
theorem dX3_planRole_62 : decode cX3_planRole 62 = .ok (.ireturn, 1) := by decide +kernel
theorem dX3_addImage_0 : decode cX3_addImage 0 = .ok (.aload_n 0, 1) := by decide +kernel
theorem dX3_addImage_1 : decode cX3_addImage 1 = .ok (.getfield 29, 3) := by decide +kernel
theorem dX3_addImage_4 : decode cX3_addImage 4 = .ok (.ifCond .le 25, 3) := by decide +kernel
theorem dX3_addImage_7 : decode cX3_addImage 7 = .ok (.aload_n 0, 1) := by decide +kernel
theorem dX3_addImage_8 : decode cX3_addImage 8 = .ok (.getfield 29, 3) := by decide +kernel
theorem dX3_addImage_11 : decode cX3_addImage 11 = .ok (.iconst 4, 1) := by decide +kernel
theorem dX3_addImage_12 : decode cX3_addImage 12 = .ok (.if_icmp .gt 17, 3) := by decide +kernel
theorem dX3_addImage_15 : decode cX3_addImage 15 = .ok (.aload_n 0, 1) := by decide +kernel
theorem dX3_addImage_16 : decode cX3_addImage 16 = .ok (.getfield 33, 3) := by decide +kernel
theorem dX3_addImage_19 : decode cX3_addImage 19 = .ok (.aload_n 0, 1) := by decide +kernel
theorem dX3_addImage_20 : decode cX3_addImage 20 = .ok (.getfield 29, 3) := by decide +kernel
theorem dX3_addImage_23 : decode cX3_addImage 23 = .ok (.iconst 1, 1) := by decide +kernel
theorem dX3_addImage_24 : decode cX3_addImage 24 = .ok (.isub, 1) := by decide +kernel
theorem dX3_addImage_25 : decode cX3_addImage 25 = .ok (.iaload, 1) := by decide +kernel
theorem dX3_addImage_26 : decode cX3_addImage 26 = .ok (.goto 4, 3) := by decide +kernel
theorem dX3_addImage_29 : decode cX3_addImage 29 = .ok (.iconst 0, 1) := by decide +kernel
theorem dX3_addImage_30 : decode cX3_addImage 30 = .ok (.istore 4, 2) := by decide +kernel
theorem dX3_addImage_32 : decode cX3_addImage 32 = .ok (.iload_n 1, 1) := by decide +kernel
theorem dX3_addImage_33 : decode cX3_addImage 33 = .ok (.iload 4, 2) := by decide +kernel
theorem dX3_addImage_35 : decode cX3_addImage 35 = .ok (.if_icmp .le 21, 3) := by decide +kernel
theorem dX3_addImage_38 : decode cX3_addImage 38 = .ok (.iload_n 1, 1) := by decide +kernel
theorem dX3_addImage_39 : decode cX3_addImage 39 = .ok (.ldc 81, 2) := by decide +kernel
theorem dX3_addImage_41 : decode cX3_addImage 41 = .ok (.if_icmp .gt 15, 3) := by decide +kernel
theorem dX3_addImage_44 : decode cX3_addImage 44 = .ok (.iload_n 2, 1) := by decide +kernel
theorem dX3_addImage_45 : decode cX3_addImage 45 = .ok (.iconst 1, 1) := by decide +kernel
theorem dX3_addImage_46 : decode cX3_addImage 46 = .ok (.if_icmp .lt 10, 3) := by decide +kernel
theorem dX3_addImage_49 : decode cX3_addImage 49 = .ok (.iload_n 2, 1) := by decide +kernel
theorem dX3_addImage_50 : decode cX3_addImage 50 = .ok (.sipush 1024, 3) := by decide +kernel
theorem dX3_addImage_53 : decode cX3_addImage 53 = .ok (.if_icmp .le 5, 3) := by decide +kernel
theorem dX3_addImage_56 : decode cX3_addImage 56 = .ok (.iconst (-1), 1) := by decide +kernel
theorem dX3_addImage_57 : decode cX3_addImage 57 = .ok (.ireturn, 1) := by decide +kernel
theorem dX3_addImage_58 : decode cX3_addImage 58 = .ok (.aload_n 0, 1) := by decide +kernel
theorem dX3_addImage_59 : decode cX3_addImage 59 = .ok (.getfield 29, 3) := by decide +kernel
theorem dX3_addImage_62 : decode cX3_addImage 62 = .ok (.iconst 4, 1) := by decide +kernel
theorem dX3_addImage_63 : decode cX3_addImage 63 = .ok (.if_icmp .lt 6, 3) := by decide +kernel
theorem dX3_addImage_66 : decode cX3_addImage 66 = .ok (.bipush (-5), 2) := by decide +kernel
theorem dX3_addImage_68 : decode cX3_addImage 68 = .ok (.ireturn, 1) := by decide +kernel
theorem dX3_addImage_69 : decode cX3_addImage 69 = .ok (.aload_n 0, 1) := by decide +kernel
theorem dX3_addImage_70 : decode cX3_addImage 70 = .ok (.getfield 33, 3) := by decide +kernel
theorem dX3_addImage_73 : decode cX3_addImage 73 = .ok (.aload_n 0, 1) := by decide +kernel
theorem dX3_addImage_74 : decode cX3_addImage 74 = .ok (.getfield 29, 3) := by decide +kernel
theorem dX3_addImage_77 : decode cX3_addImage 77 = .ok (.iload_n 1, 1) := by decide +kernel
theorem dX3_addImage_78 : decode cX3_addImage 78 = .ok (.iastore, 1) := by decide +kernel
theorem dX3_addImage_79 : decode cX3_addImage 79 = .ok (.aload_n 0, 1) := by decide +kernel
theorem dX3_addImage_80 : decode cX3_addImage 80 = .ok (.getfield 36, 3) := by decide +kernel
theorem dX3_addImage_83 : decode cX3_addImage 83 = .ok (.aload_n 0, 1) := by decide +kernel
theorem dX3_addImage_84 : decode cX3_addImage 84 = .ok (.getfield 29, 3) := by decide +kernel
theorem dX3_addImage_87 : decode cX3_addImage 87 = .ok (.iload_n 2, 1) := by decide +kernel
theorem dX3_addImage_88 : decode cX3_addImage 88 = .ok (.iastore, 1) := by decide +kernel
theorem dX3_addImage_89 : decode cX3_addImage 89 = .ok (.aload_n 0, 1) := by decide +kernel
theorem dX3_addImage_90 : decode cX3_addImage 90 = .ok (.getfield 39, 3) := by decide +kernel
theorem dX3_addImage_93 : decode cX3_addImage 93 = .ok (.aload_n 0, 1) := by decide +kernel
theorem dX3_addImage_94 : decode cX3_addImage 94 = .ok (.getfield 29, 3) := by decide +kernel
theorem dX3_addImage_97 : decode cX3_addImage 97 = .ok (.iload_n 3, 1) := by decide +kernel
theorem dX3_addImage_98 : decode cX3_addImage 98 = .ok (.iastore, 1) := by decide +kernel
theorem dX3_addImage_99 : decode cX3_addImage 99 = .ok (.aload_n 0, 1) := by decide +kernel
theorem dX3_addImage_100 : decode cX3_addImage 100 = .ok (.getfield 51, 3) := by decide +kernel
theorem dX3_addImage_103 : decode cX3_addImage 103 = .ok (.invokevirtual 82, 3) := by decide +kernel
theorem dX3_addImage_106 : decode cX3_addImage 106 = .ok (.aload_n 0, 1) := by decide +kernel
theorem dX3_addImage_107 : decode cX3_addImage 107 = .ok (.aload_n 0, 1) := by decide +kernel
theorem dX3_addImage_108 : decode cX3_addImage 108 = .ok (.getfield 51, 3) := by decide +kernel
theorem dX3_addImage_111 : decode cX3_addImage 111 = .ok (.aload_n 0, 1) := by decide +kernel
theorem dX3_addImage_112 : decode cX3_addImage 112 = .ok (.getfield 29, 3) := by decide +kernel
theorem dX3_addImage_115 : decode cX3_addImage 115 = .ok (.iconst 0, 1) := by decide +kernel
theorem dX3_addImage_116 : decode cX3_addImage 116 = .ok (.iload_n 2, 1) := by decide +kernel
theorem dX3_addImage_117 : decode cX3_addImage 117 = .ok (.invokevirtual 85, 3) := by decide +kernel
theorem dX3_addImage_120 : decode cX3_addImage 120 = .ok (.aload_n 0, 1) := by decide +kernel
theorem dX3_addImage_121 : decode cX3_addImage 121 = .ok (.getfield 42, 3) := by decide +kernel
theorem dX3_addImage_124 : decode cX3_addImage 124 = .ok (.aload_n 0, 1) := by decide +kernel
theorem dX3_addImage_125 : decode cX3_addImage 125 = .ok (.getfield 29, 3) := by decide +kernel
theorem dX3_addImage_128 : decode cX3_addImage 128 = .ok (.aload_n 0, 1) := by decide +kernel
theorem dX3_addImage_129 : decode cX3_addImage 129 = .ok (.getfield 51, 3) := by decide +kernel
theorem dX3_addImage_132 : decode cX3_addImage 132 = .ok (.iconst 0, 1) := by decide +kernel
theorem dX3_addImage_133 : decode cX3_addImage 133 = .ok (.iload_n 2, 1) := by decide +kernel
theorem dX3_addImage_134 : decode cX3_addImage 134 = .ok (.invokevirtual 89, 3) := by decide +kernel
theorem dX3_addImage_137 : decode cX3_addImage 137 = .ok (.lastore, 1) := by decide +kernel
theorem dX3_addImage_138 : decode cX3_addImage 138 = .ok (.aload_n 0, 1) := by decide +kernel
theorem dX3_addImage_139 : decode cX3_addImage 139 = .ok (.dup, 1) := by decide +kernel
theorem dX3_addImage_140 : decode cX3_addImage 140 = .ok (.getfield 29, 3) := by decide +kernel
theorem dX3_addImage_143 : decode cX3_addImage 143 = .ok (.iconst 1, 1) := by decide +kernel
theorem dX3_addImage_144 : decode cX3_addImage 144 = .ok (.iadd, 1) := by decide +kernel
theorem dX3_addImage_145 : decode cX3_addImage 145 = .ok (.putfield 29, 3) := by decide +kernel
theorem dX3_addImage_148 : decode cX3_addImage 148 = .ok (.aload_n 0, 1) := by decide +kernel
theorem dX3_addImage_149 : decode cX3_addImage 149 = .ok (.getfield 29, 3) := by decide +kernel
theorem dX3_addImage_152 : decode cX3_addImage 152 = .ok (.ireturn, 1) := by decide +kernel
theorem dX3_addProgram_0 : decode cX3_addProgram 0 = .ok (.aload_n 0, 1) := by decide +kernel
theorem dX3_addProgram_1 : decode cX3_addProgram 1 = .ok (.getfield 39, 3) := by decide +kernel
theorem dX3_addProgram_4 : decode cX3_addProgram 4 = .ok (.iload_n 2, 1) := by decide +kernel
theorem dX3_addProgram_5 : decode cX3_addProgram 5 = .ok (.iaload, 1) := by decide +kernel
theorem dX3_addProgram_6 : decode cX3_addProgram 6 = .ok (.istore 5, 2) := by decide +kernel
theorem dX3_addProgram_8 : decode cX3_addProgram 8 = .ok (.iload_n 3, 1) := by decide +kernel
theorem dX3_addProgram_9 : decode cX3_addProgram 9 = .ok (.istore 6, 2) := by decide +kernel
theorem dX3_addProgram_11 : decode cX3_addProgram 11 = .ok (.iload 6, 2) := by decide +kernel
theorem dX3_addProgram_13 : decode cX3_addProgram 13 = .ok (.iload 4, 2) := by decide +kernel
theorem dX3_addProgram_15 : decode cX3_addProgram 15 = .ok (.if_icmp .ge 30, 3) := by decide +kernel
theorem dX3_addProgram_18 : decode cX3_addProgram 18 = .ok (.aload_n 1, 1) := by decide +kernel
theorem dX3_addProgram_19 : decode cX3_addProgram 19 = .ok (.iload 5, 2) := by decide +kernel
theorem dX3_addProgram_21 : decode cX3_addProgram 21 = .ok (.bipush 7, 2) := by decide +kernel
theorem dX3_addProgram_23 : decode cX3_addProgram 23 = .ok (.iload 6, 2) := by decide +kernel
theorem dX3_addProgram_25 : decode cX3_addProgram 25 = .ok (.imul, 1) := by decide +kernel
theorem dX3_addProgram_26 : decode cX3_addProgram 26 = .ok (.iadd, 1) := by decide +kernel
theorem dX3_addProgram_27 : decode cX3_addProgram 27 = .ok (.iload 6, 2) := by decide +kernel
theorem dX3_addProgram_29 : decode cX3_addProgram 29 = .ok (.bipush 6, 2) := by decide +kernel
theorem dX3_addProgram_31 : decode cX3_addProgram 31 = .ok (.ishr, 1) := by decide +kernel
theorem dX3_addProgram_32 : decode cX3_addProgram 32 = .ok (.iload 5, 2) := by decide +kernel
theorem dX3_addProgram_34 : decode cX3_addProgram 34 = .ok (.imul, 1) := by decide +kernel
theorem dX3_addProgram_35 : decode cX3_addProgram 35 = .ok (.iadd, 1) := by decide +kernel
theorem dX3_addProgram_36 : decode cX3_addProgram 36 = .ok (.invokevirtual 93, 3) := by decide +kernel
theorem dX3_addProgram_39 : decode cX3_addProgram 39 = .ok (.iinc 6 1, 3) := by decide +kernel
theorem dX3_addProgram_42 : decode cX3_addProgram 42 = .ok (.goto (-31), 3) := by decide +kernel
theorem dX3_addProgram_45 : decode cX3_addProgram 45 = .ok (.return_, 1) := by decide +kernel
theorem dX3_dropImages_0 : decode cX3_dropImages 0 = .ok (.aload_n 0, 1) := by decide +kernel
theorem dX3_dropImages_1 : decode cX3_dropImages 1 = .ok (.getfield 29, 3) := by decide +kernel
theorem dX3_dropImages_4 : decode cX3_dropImages 4 = .ok (.istore_n 1, 1) := by decide +kernel
theorem dX3_dropImages_5 : decode cX3_dropImages 5 = .ok (.aload_n 0, 1) := by decide +kernel
theorem dX3_dropImages_6 : decode cX3_dropImages 6 = .ok (.iconst 0, 1) := by decide +kernel
theorem dX3_dropImages_7 : decode cX3_dropImages 7 = .ok (.putfield 29, 3) := by decide +kernel
theorem dX3_dropImages_10 : decode cX3_dropImages 10 = .ok (.iload_n 1, 1) := by decide +kernel
theorem dX3_dropImages_11 : decode cX3_dropImages 11 = .ok (.ireturn, 1) := by decide +kernel
theorem dX3_compose_0 : decode cX3_compose 0 = .ok (.iload_n 1, 1) := by decide +kernel
theorem dX3_compose_1 : decode cX3_compose 1 = .ok (.ifCond .lt 23, 3) := by decide +kernel
theorem dX3_compose_4 : decode cX3_compose 4 = .ok (.iload_n 1, 1) := by decide +kernel
theorem dX3_compose_5 : decode cX3_compose 5 = .ok (.iconst 4, 1) := by decide +kernel
theorem dX3_compose_6 : decode cX3_compose 6 = .ok (.if_icmp .ge 18, 3) := by decide +kernel
theorem dX3_compose_9 : decode cX3_compose 9 = .ok (.iload_n 2, 1) := by decide +kernel
theorem dX3_compose_10 : decode cX3_compose 10 = .ok (.iconst 1, 1) := by decide +kernel
theorem dX3_compose_11 : decode cX3_compose 11 = .ok (.if_icmp .lt 13, 3) := by decide +kernel
theorem dX3_compose_14 : decode cX3_compose 14 = .ok (.iload_n 2, 1) := by decide +kernel
theorem dX3_compose_15 : decode cX3_compose 15 = .ok (.ldc 81, 2) := by decide +kernel
theorem dX3_compose_17 : decode cX3_compose 17 = .ok (.if_icmp .gt 7, 3) := by decide +kernel
theorem dX3_compose_20 : decode cX3_compose 20 = .ok (.iload_n 3, 1) := by decide +kernel
theorem dX3_compose_21 : decode cX3_compose 21 = .ok (.ifCond .ge 5, 3) := by decide +kernel
theorem dX3_compose_24 : decode cX3_compose 24 = .ok (.iconst (-1), 1) := by decide +kernel
theorem dX3_compose_25 : decode cX3_compose 25 = .ok (.ireturn, 1) := by decide +kernel
theorem dX3_compose_26 : decode cX3_compose 26 = .ok (.aload_n 0, 1) := by decide +kernel
theorem dX3_compose_27 : decode cX3_compose 27 = .ok (.getfield 55, 3) := by decide +kernel
theorem dX3_compose_30 : decode cX3_compose 30 = .ok (.invokevirtual 82, 3) := by decide +kernel
theorem dX3_compose_33 : decode cX3_compose 33 = .ok (.aload_n 0, 1) := by decide +kernel
theorem dX3_compose_34 : decode cX3_compose 34 = .ok (.getfield 55, 3) := by decide +kernel
theorem dX3_compose_37 : decode cX3_compose 37 = .ok (.iload_n 2, 1) := by decide +kernel
theorem dX3_compose_38 : decode cX3_compose 38 = .ok (.i2l, 1) := by decide +kernel
theorem dX3_compose_39 : decode cX3_compose 39 = .ok (.iconst 2, 1) := by decide +kernel
theorem dX3_compose_40 : decode cX3_compose 40 = .ok (.invokevirtual 96, 3) := by decide +kernel
theorem dX3_compose_43 : decode cX3_compose 43 = .ok (.aload_n 0, 1) := by decide +kernel
theorem dX3_compose_44 : decode cX3_compose 44 = .ok (.getfield 55, 3) := by decide +kernel
theorem dX3_compose_47 : decode cX3_compose 47 = .ok (.iload_n 3, 1) := by decide +kernel
theorem dX3_compose_48 : decode cX3_compose 48 = .ok (.i2l, 1) := by decide +kernel
theorem dX3_compose_49 : decode cX3_compose 49 = .ok (.iconst 4, 1) := by decide +kernel
theorem dX3_compose_50 : decode cX3_compose 50 = .ok (.invokevirtual 96, 3) := by decide +kernel
theorem dX3_compose_53 : decode cX3_compose 53 = .ok (.iload_n 1, 1) := by decide +kernel
theorem dX3_compose_54 : decode cX3_compose 54 = .ok (.ifCond .ne 10, 3) := by decide +kernel
theorem dX3_compose_57 : decode cX3_compose 57 = .ok (.aload_n 0, 1) := by decide +kernel
theorem dX3_compose_58 : decode cX3_compose 58 = .ok (.invokevirtual 100, 3) := by decide +kernel
theorem dX3_compose_61 : decode cX3_compose 61 = .ok (.goto 49, 3) := by decide +kernel
theorem dX3_compose_64 : decode cX3_compose 64 = .ok (.iload_n 1, 1) := by decide +kernel
theorem dX3_compose_65 : decode cX3_compose 65 = .ok (.iconst 3, 1) := by decide +kernel
theorem dX3_compose_66 : decode cX3_compose 66 = .ok (.if_icmp .ne 10, 3) := by decide +kernel
theorem dX3_compose_69 : decode cX3_compose 69 = .ok (.aload_n 0, 1) := by decide +kernel
theorem dX3_compose_70 : decode cX3_compose 70 = .ok (.invokevirtual 103, 3) := by decide +kernel
theorem dX3_compose_73 : decode cX3_compose 73 = .ok (.goto 37, 3) := by decide +kernel
theorem dX3_compose_76 : decode cX3_compose 76 = .ok (.aload_n 0, 1) := by decide +kernel
theorem dX3_compose_77 : decode cX3_compose 77 = .ok (.getfield 55, 3) := by decide +kernel
theorem dX3_compose_80 : decode cX3_compose 80 = .ok (.aload_n 0, 1) := by decide +kernel
theorem dX3_compose_81 : decode cX3_compose 81 = .ok (.getfield 64, 3) := by decide +kernel
theorem dX3_compose_84 : decode cX3_compose 84 = .ok (.iload_n 1, 1) := by decide +kernel
theorem dX3_compose_85 : decode cX3_compose 85 = .ok (.iconst 1, 1) := by decide +kernel
theorem dX3_compose_86 : decode cX3_compose 86 = .ok (.iadd, 1) := by decide +kernel
theorem dX3_compose_87 : decode cX3_compose 87 = .ok (.iaload, 1) := by decide +kernel
theorem dX3_compose_88 : decode cX3_compose 88 = .ok (.i2l, 1) := by decide +kernel
theorem dX3_compose_89 : decode cX3_compose 89 = .ok (.iconst 2, 1) := by decide +kernel
theorem dX3_compose_90 : decode cX3_compose 90 = .ok (.invokevirtual 96, 3) := by decide +kernel
theorem dX3_compose_93 : decode cX3_compose 93 = .ok (.aload_n 0, 1) := by decide +kernel
theorem dX3_compose_94 : decode cX3_compose 94 = .ok (.getfield 55, 3) := by decide +kernel
theorem dX3_compose_97 : decode cX3_compose 97 = .ok (.aload_n 0, 1) := by decide +kernel
theorem dX3_compose_98 : decode cX3_compose 98 = .ok (.getfield 67, 3) := by decide +kernel
theorem dX3_compose_101 : decode cX3_compose 101 = .ok (.iload_n 1, 1) := by decide +kernel
theorem dX3_compose_102 : decode cX3_compose 102 = .ok (.iconst 1, 1) := by decide +kernel
theorem dX3_compose_103 : decode cX3_compose 103 = .ok (.iadd, 1) := by decide +kernel
theorem dX3_compose_104 : decode cX3_compose 104 = .ok (.laload, 1) := by decide +kernel
theorem dX3_compose_105 : decode cX3_compose 105 = .ok (.bipush 8, 2) := by decide +kernel
theorem dX3_compose_107 : decode cX3_compose 107 = .ok (.invokevirtual 96, 3) := by decide +kernel
theorem dX3_compose_110 : decode cX3_compose 110 = .ok (.aload_n 0, 1) := by decide +kernel
theorem dX3_compose_111 : decode cX3_compose 111 = .ok (.iload_n 1, 1) := by decide +kernel
theorem dX3_compose_112 : decode cX3_compose 112 = .ok (.putfield 58, 3) := by decide +kernel
theorem dX3_compose_115 : decode cX3_compose 115 = .ok (.aload_n 0, 1) := by decide +kernel
theorem dX3_compose_116 : decode cX3_compose 116 = .ok (.iconst 0, 1) := by decide +kernel
theorem dX3_compose_117 : decode cX3_compose 117 = .ok (.putfield 61, 3) := by decide +kernel
theorem dX3_compose_120 : decode cX3_compose 120 = .ok (.aload_n 0, 1) := by decide +kernel
theorem dX3_compose_121 : decode cX3_compose 121 = .ok (.getfield 64, 3) := by decide +kernel
theorem dX3_compose_124 : decode cX3_compose 124 = .ok (.iload_n 1, 1) := by decide +kernel
theorem dX3_compose_125 : decode cX3_compose 125 = .ok (.iload_n 2, 1) := by decide +kernel
theorem dX3_compose_126 : decode cX3_compose 126 = .ok (.iastore, 1) := by decide +kernel
theorem dX3_compose_127 : decode cX3_compose 127 = .ok (.aload_n 0, 1) := by decide +kernel
theorem dX3_compose_128 : decode cX3_compose 128 = .ok (.getfield 67, 3) := by decide +kernel
theorem dX3_compose_131 : decode cX3_compose 131 = .ok (.iload_n 1, 1) := by decide +kernel
theorem dX3_compose_132 : decode cX3_compose 132 = .ok (.aload_n 0, 1) := by decide +kernel
theorem dX3_compose_133 : decode cX3_compose 133 = .ok (.getfield 55, 3) := by decide +kernel
theorem dX3_compose_136 : decode cX3_compose 136 = .ok (.iconst 0, 1) := by decide +kernel
theorem dX3_compose_137 : decode cX3_compose 137 = .ok (.aload_n 0, 1) := by decide +kernel
theorem dX3_compose_138 : decode cX3_compose 138 = .ok (.getfield 55, 3) := by decide +kernel
theorem dX3_compose_141 : decode cX3_compose 141 = .ok (.invokevirtual 106, 3) := by decide +kernel
theorem dX3_compose_144 : decode cX3_compose 144 = .ok (.invokevirtual 89, 3) := by decide +kernel
theorem dX3_compose_147 : decode cX3_compose 147 = .ok (.lastore, 1) := by decide +kernel
theorem dX3_compose_148 : decode cX3_compose 148 = .ok (.aload_n 0, 1) := by decide +kernel
theorem dX3_compose_149 : decode cX3_compose 149 = .ok (.getfield 55, 3) := by decide +kernel
theorem dX3_compose_152 : decode cX3_compose 152 = .ok (.invokevirtual 106, 3) := by decide +kernel
theorem dX3_compose_155 : decode cX3_compose 155 = .ok (.ireturn, 1) := by decide +kernel
theorem dX3_addRoles_0 : decode cX3_addRoles 0 = .ok (.iconst 0, 1) := by decide +kernel
theorem dX3_addRoles_1 : decode cX3_addRoles 1 = .ok (.istore_n 1, 1) := by decide +kernel
theorem dX3_addRoles_2 : decode cX3_addRoles 2 = .ok (.iload_n 1, 1) := by decide +kernel
theorem dX3_addRoles_3 : decode cX3_addRoles 3 = .ok (.iconst 4, 1) := by decide +kernel
theorem dX3_addRoles_4 : decode cX3_addRoles 4 = .ok (.if_icmp .ge 35, 3) := by decide +kernel
theorem dX3_addRoles_7 : decode cX3_addRoles 7 = .ok (.aload_n 0, 1) := by decide +kernel
theorem dX3_addRoles_8 : decode cX3_addRoles 8 = .ok (.getfield 55, 3) := by decide +kernel
theorem dX3_addRoles_11 : decode cX3_addRoles 11 = .ok (.aload_n 0, 1) := by decide +kernel
theorem dX3_addRoles_12 : decode cX3_addRoles 12 = .ok (.getfield 26, 3) := by decide +kernel
theorem dX3_addRoles_15 : decode cX3_addRoles 15 = .ok (.iload_n 1, 1) := by decide +kernel
theorem dX3_addRoles_16 : decode cX3_addRoles 16 = .ok (.iaload, 1) := by decide +kernel
theorem dX3_addRoles_17 : decode cX3_addRoles 17 = .ok (.invokevirtual 93, 3) := by decide +kernel
theorem dX3_addRoles_20 : decode cX3_addRoles 20 = .ok (.aload_n 0, 1) := by decide +kernel
theorem dX3_addRoles_21 : decode cX3_addRoles 21 = .ok (.getfield 55, 3) := by decide +kernel
theorem dX3_addRoles_24 : decode cX3_addRoles 24 = .ok (.aload_n 0, 1) := by decide +kernel
theorem dX3_addRoles_25 : decode cX3_addRoles 25 = .ok (.getfield 18, 3) := by decide +kernel
theorem dX3_addRoles_28 : decode cX3_addRoles 28 = .ok (.iload_n 1, 1) := by decide +kernel
theorem dX3_addRoles_29 : decode cX3_addRoles 29 = .ok (.iaload, 1) := by decide +kernel
theorem dX3_addRoles_30 : decode cX3_addRoles 30 = .ok (.invokevirtual 110, 3) := by decide +kernel
theorem dX3_addRoles_33 : decode cX3_addRoles 33 = .ok (.iinc 1 1, 3) := by decide +kernel
theorem dX3_addRoles_36 : decode cX3_addRoles 36 = .ok (.goto (-34), 3) := by decide +kernel
theorem dX3_addRoles_39 : decode cX3_addRoles 39 = .ok (.return_, 1) := by decide +kernel
theorem dX3_addImages_0 : decode cX3_addImages 0 = .ok (.aload_n 0, 1) := by decide +kernel
theorem dX3_addImages_1 : decode cX3_addImages 1 = .ok (.getfield 55, 3) := by decide +kernel
theorem dX3_addImages_4 : decode cX3_addImages 4 = .ok (.aload_n 0, 1) := by decide +kernel
theorem dX3_addImages_5 : decode cX3_addImages 5 = .ok (.getfield 29, 3) := by decide +kernel
theorem dX3_addImages_8 : decode cX3_addImages 8 = .ok (.invokevirtual 93, 3) := by decide +kernel
theorem dX3_addImages_11 : decode cX3_addImages 11 = .ok (.iconst 0, 1) := by decide +kernel
theorem dX3_addImages_12 : decode cX3_addImages 12 = .ok (.istore_n 1, 1) := by decide +kernel
theorem dX3_addImages_13 : decode cX3_addImages 13 = .ok (.iload_n 1, 1) := by decide +kernel
theorem dX3_addImages_14 : decode cX3_addImages 14 = .ok (.aload_n 0, 1) := by decide +kernel
theorem dX3_addImages_15 : decode cX3_addImages 15 = .ok (.getfield 29, 3) := by decide +kernel
theorem dX3_addImages_18 : decode cX3_addImages 18 = .ok (.if_icmp .ge 59, 3) := by decide +kernel
theorem dX3_addImages_21 : decode cX3_addImages 21 = .ok (.iload_n 1, 1) := by decide +kernel
theorem dX3_addImages_22 : decode cX3_addImages 22 = .ok (.iconst 4, 1) := by decide +kernel
theorem dX3_addImages_23 : decode cX3_addImages 23 = .ok (.if_icmp .ge 54, 3) := by decide +kernel
theorem dX3_addImages_26 : decode cX3_addImages 26 = .ok (.aload_n 0, 1) := by decide +kernel
theorem dX3_addImages_27 : decode cX3_addImages 27 = .ok (.getfield 55, 3) := by decide +kernel
theorem dX3_addImages_30 : decode cX3_addImages 30 = .ok (.aload_n 0, 1) := by decide +kernel
theorem dX3_addImages_31 : decode cX3_addImages 31 = .ok (.getfield 33, 3) := by decide +kernel
theorem dX3_addImages_34 : decode cX3_addImages 34 = .ok (.iload_n 1, 1) := by decide +kernel
theorem dX3_addImages_35 : decode cX3_addImages 35 = .ok (.iaload, 1) := by decide +kernel
theorem dX3_addImages_36 : decode cX3_addImages 36 = .ok (.i2l, 1) := by decide +kernel
theorem dX3_addImages_37 : decode cX3_addImages 37 = .ok (.iconst 2, 1) := by decide +kernel
theorem dX3_addImages_38 : decode cX3_addImages 38 = .ok (.invokevirtual 96, 3) := by decide +kernel
theorem dX3_addImages_41 : decode cX3_addImages 41 = .ok (.aload_n 0, 1) := by decide +kernel
theorem dX3_addImages_42 : decode cX3_addImages 42 = .ok (.getfield 55, 3) := by decide +kernel
theorem dX3_addImages_45 : decode cX3_addImages 45 = .ok (.aload_n 0, 1) := by decide +kernel
theorem dX3_addImages_46 : decode cX3_addImages 46 = .ok (.getfield 36, 3) := by decide +kernel
theorem dX3_addImages_49 : decode cX3_addImages 49 = .ok (.iload_n 1, 1) := by decide +kernel
theorem dX3_addImages_50 : decode cX3_addImages 50 = .ok (.iaload, 1) := by decide +kernel
theorem dX3_addImages_51 : decode cX3_addImages 51 = .ok (.i2l, 1) := by decide +kernel
theorem dX3_addImages_52 : decode cX3_addImages 52 = .ok (.iconst 2, 1) := by decide +kernel
theorem dX3_addImages_53 : decode cX3_addImages 53 = .ok (.invokevirtual 96, 3) := by decide +kernel
theorem dX3_addImages_56 : decode cX3_addImages 56 = .ok (.aload_n 0, 1) := by decide +kernel
theorem dX3_addImages_57 : decode cX3_addImages 57 = .ok (.getfield 55, 3) := by decide +kernel
theorem dX3_addImages_60 : decode cX3_addImages 60 = .ok (.aload_n 0, 1) := by decide +kernel
theorem dX3_addImages_61 : decode cX3_addImages 61 = .ok (.getfield 42, 3) := by decide +kernel
theorem dX3_addImages_64 : decode cX3_addImages 64 = .ok (.iload_n 1, 1) := by decide +kernel
theorem dX3_addImages_65 : decode cX3_addImages 65 = .ok (.laload, 1) := by decide +kernel
theorem dX3_addImages_66 : decode cX3_addImages 66 = .ok (.bipush 8, 2) := by decide +kernel
theorem dX3_addImages_68 : decode cX3_addImages 68 = .ok (.invokevirtual 96, 3) := by decide +kernel
theorem dX3_addImages_71 : decode cX3_addImages 71 = .ok (.iinc 1 1, 3) := by decide +kernel
theorem dX3_addImages_74 : decode cX3_addImages 74 = .ok (.goto (-61), 3) := by decide +kernel
theorem dX3_addImages_77 : decode cX3_addImages 77 = .ok (.return_, 1) := by decide +kernel
theorem dX3_addKey_0 : decode cX3_addKey 0 = .ok (.aload_n 0, 1) := by decide +kernel
theorem dX3_addKey_1 : decode cX3_addKey 1 = .ok (.getfield 58, 3) := by decide +kernel
theorem dX3_addKey_4 : decode cX3_addKey 4 = .ok (.iconst (-1), 1) := by decide +kernel
theorem dX3_addKey_5 : decode cX3_addKey 5 = .ok (.if_icmp .eq 13, 3) := by decide +kernel
theorem dX3_addKey_8 : decode cX3_addKey 8 = .ok (.iload_n 1, 1) := by decide +kernel
theorem dX3_addKey_9 : decode cX3_addKey 9 = .ok (.ifCond .lt 9, 3) := by decide +kernel
theorem dX3_addKey_12 : decode cX3_addKey 12 = .ok (.iload_n 1, 1) := by decide +kernel
theorem dX3_addKey_13 : decode cX3_addKey 13 = .ok (.bipush 16, 2) := by decide +kernel
theorem dX3_addKey_15 : decode cX3_addKey 15 = .ok (.if_icmp .lt 5, 3) := by decide +kernel
theorem dX3_addKey_18 : decode cX3_addKey 18 = .ok (.iconst (-1), 1) := by decide +kernel
theorem dX3_addKey_19 : decode cX3_addKey 19 = .ok (.ireturn, 1) := by decide +kernel
theorem dX3_addKey_20 : decode cX3_addKey 20 = .ok (.aload_n 0, 1) := by decide +kernel
theorem dX3_addKey_21 : decode cX3_addKey 21 = .ok (.getfield 70, 3) := by decide +kernel
theorem dX3_addKey_24 : decode cX3_addKey 24 = .ok (.iload_n 1, 1) := by decide +kernel
theorem dX3_addKey_25 : decode cX3_addKey 25 = .ok (.aload_n 0, 1) := by decide +kernel
theorem dX3_addKey_26 : decode cX3_addKey 26 = .ok (.getfield 55, 3) := by decide +kernel
theorem dX3_addKey_29 : decode cX3_addKey 29 = .ok (.iconst 0, 1) := by decide +kernel
theorem dX3_addKey_30 : decode cX3_addKey 30 = .ok (.aload_n 0, 1) := by decide +kernel
theorem dX3_addKey_31 : decode cX3_addKey 31 = .ok (.getfield 55, 3) := by decide +kernel
theorem dX3_addKey_34 : decode cX3_addKey 34 = .ok (.invokevirtual 106, 3) := by decide +kernel
theorem dX3_addKey_37 : decode cX3_addKey 37 = .ok (.invokevirtual 89, 3) := by decide +kernel
theorem dX3_addKey_40 : decode cX3_addKey 40 = .ok (.invokevirtual 113, 3) := by decide +kernel
theorem dX3_addKey_43 : decode cX3_addKey 43 = .ok (.ifCond .ne 6, 3) := by decide +kernel
theorem dX3_addKey_46 : decode cX3_addKey 46 = .ok (.bipush (-5), 2) := by decide +kernel
theorem dX3_addKey_48 : decode cX3_addKey 48 = .ok (.ireturn, 1) := by decide +kernel
theorem dX3_addKey_49 : decode cX3_addKey 49 = .ok (.aload_n 0, 1) := by decide +kernel
theorem dX3_addKey_50 : decode cX3_addKey 50 = .ok (.dup, 1) := by decide +kernel
theorem dX3_addKey_51 : decode cX3_addKey 51 = .ok (.getfield 61, 3) := by decide +kernel
theorem dX3_addKey_54 : decode cX3_addKey 54 = .ok (.iconst 1, 1) := by decide +kernel
theorem dX3_addKey_55 : decode cX3_addKey 55 = .ok (.iload_n 1, 1) := by decide +kernel
theorem dX3_addKey_56 : decode cX3_addKey 56 = .ok (.ishl, 1) := by decide +kernel
theorem dX3_addKey_57 : decode cX3_addKey 57 = .ok (.ior, 1) := by decide +kernel
theorem dX3_addKey_58 : decode cX3_addKey 58 = .ok (.putfield 61, 3) := by decide +kernel
theorem dX3_addKey_61 : decode cX3_addKey 61 = .ok (.aload_n 0, 1) := by decide +kernel
theorem dX3_addKey_62 : decode cX3_addKey 62 = .ok (.getfield 61, 3) := by decide +kernel
theorem dX3_addKey_65 : decode cX3_addKey 65 = .ok (.invokestatic 74, 3) := by decide +kernel
theorem dX3_addKey_68 : decode cX3_addKey 68 = .ok (.ireturn, 1) := by decide +kernel
theorem dX3_copyDraft_0 : decode cX3_copyDraft 0 = .ok (.aload_n 0, 1) := by decide +kernel
theorem dX3_copyDraft_1 : decode cX3_copyDraft 1 = .ok (.getfield 58, 3) := by decide +kernel
theorem dX3_copyDraft_4 : decode cX3_copyDraft 4 = .ok (.iconst (-1), 1) := by decide +kernel
theorem dX3_copyDraft_5 : decode cX3_copyDraft 5 = .ok (.if_icmp .ne 5, 3) := by decide +kernel
theorem dX3_copyDraft_8 : decode cX3_copyDraft 8 = .ok (.iconst (-1), 1) := by decide +kernel
theorem dX3_copyDraft_9 : decode cX3_copyDraft 9 = .ok (.ireturn, 1) := by decide +kernel
theorem dX3_copyDraft_10 : decode cX3_copyDraft 10 = .ok (.aload_n 1, 1) := by decide +kernel
theorem dX3_copyDraft_11 : decode cX3_copyDraft 11 = .ok (.invokevirtual 82, 3) := by decide +kernel
theorem dX3_copyDraft_14 : decode cX3_copyDraft 14 = .ok (.aload_n 1, 1) := by decide +kernel
theorem dX3_copyDraft_15 : decode cX3_copyDraft 15 = .ok (.aload_n 0, 1) := by decide +kernel
theorem dX3_copyDraft_16 : decode cX3_copyDraft 16 = .ok (.getfield 58, 3) := by decide +kernel
theorem dX3_copyDraft_19 : decode cX3_copyDraft 19 = .ok (.invokevirtual 93, 3) := by decide +kernel
theorem dX3_copyDraft_22 : decode cX3_copyDraft 22 = .ok (.aload_n 1, 1) := by decide +kernel
theorem dX3_copyDraft_23 : decode cX3_copyDraft 23 = .ok (.aload_n 0, 1) := by decide +kernel
theorem dX3_copyDraft_24 : decode cX3_copyDraft 24 = .ok (.getfield 55, 3) := by decide +kernel
theorem dX3_copyDraft_27 : decode cX3_copyDraft 27 = .ok (.invokevirtual 106, 3) := by decide +kernel
theorem dX3_copyDraft_30 : decode cX3_copyDraft 30 = .ok (.i2l, 1) := by decide +kernel
theorem dX3_copyDraft_31 : decode cX3_copyDraft 31 = .ok (.iconst 2, 1) := by decide +kernel
theorem dX3_copyDraft_32 : decode cX3_copyDraft 32 = .ok (.invokevirtual 96, 3) := by decide +kernel
theorem dX3_copyDraft_35 : decode cX3_copyDraft 35 = .ok (.aload_n 1, 1) := by decide +kernel
theorem dX3_copyDraft_36 : decode cX3_copyDraft 36 = .ok (.aload_n 0, 1) := by decide +kernel
theorem dX3_copyDraft_37 : decode cX3_copyDraft 37 = .ok (.getfield 55, 3) := by decide +kernel
theorem dX3_copyDraft_40 : decode cX3_copyDraft 40 = .ok (.iconst 0, 1) := by decide +kernel
theorem dX3_copyDraft_41 : decode cX3_copyDraft 41 = .ok (.aload_n 0, 1) := by decide +kernel
theorem dX3_copyDraft_42 : decode cX3_copyDraft 42 = .ok (.getfield 55, 3) := by decide +kernel
theorem dX3_copyDraft_45 : decode cX3_copyDraft 45 = .ok (.invokevirtual 106, 3) := by decide +kernel
theorem dX3_copyDraft_48 : decode cX3_copyDraft 48 = .ok (.invokevirtual 118, 3) := by decide +kernel
theorem dX3_copyDraft_51 : decode cX3_copyDraft 51 = .ok (.aload_n 1, 1) := by decide +kernel
theorem dX3_copyDraft_52 : decode cX3_copyDraft 52 = .ok (.aload_n 0, 1) := by decide +kernel
theorem dX3_copyDraft_53 : decode cX3_copyDraft 53 = .ok (.getfield 61, 3) := by decide +kernel
theorem dX3_copyDraft_56 : decode cX3_copyDraft 56 = .ok (.invokevirtual 110, 3) := by decide +kernel
theorem dX3_copyDraft_59 : decode cX3_copyDraft 59 = .ok (.aload_n 1, 1) := by decide +kernel
theorem dX3_copyDraft_60 : decode cX3_copyDraft 60 = .ok (.invokevirtual 106, 3) := by decide +kernel
theorem dX3_copyDraft_63 : decode cX3_copyDraft 63 = .ok (.ireturn, 1) := by decide +kernel
theorem dX3_copyPiece_0 : decode cX3_copyPiece 0 = .ok (.iconst 0, 1) := by decide +kernel
theorem dX3_copyPiece_1 : decode cX3_copyPiece 1 = .ok (.istore 4, 2) := by decide +kernel
theorem dX3_copyPiece_3 : decode cX3_copyPiece 3 = .ok (.iload 4, 2) := by decide +kernel
theorem dX3_copyPiece_5 : decode cX3_copyPiece 5 = .ok (.aload_n 0, 1) := by decide +kernel
theorem dX3_copyPiece_6 : decode cX3_copyPiece 6 = .ok (.getfield 29, 3) := by decide +kernel
theorem dX3_copyPiece_9 : decode cX3_copyPiece 9 = .ok (.if_icmp .ge 85, 3) := by decide +kernel
theorem dX3_copyPiece_12 : decode cX3_copyPiece 12 = .ok (.iload 4, 2) := by decide +kernel
theorem dX3_copyPiece_14 : decode cX3_copyPiece 14 = .ok (.iconst 4, 1) := by decide +kernel
theorem dX3_copyPiece_15 : decode cX3_copyPiece 15 = .ok (.if_icmp .ge 79, 3) := by decide +kernel
theorem dX3_copyPiece_18 : decode cX3_copyPiece 18 = .ok (.aload_n 0, 1) := by decide +kernel
theorem dX3_copyPiece_19 : decode cX3_copyPiece 19 = .ok (.getfield 33, 3) := by decide +kernel
theorem dX3_copyPiece_22 : decode cX3_copyPiece 22 = .ok (.iload 4, 2) := by decide +kernel
theorem dX3_copyPiece_24 : decode cX3_copyPiece 24 = .ok (.iaload, 1) := by decide +kernel
theorem dX3_copyPiece_25 : decode cX3_copyPiece 25 = .ok (.iload_n 1, 1) := by decide +kernel
theorem dX3_copyPiece_26 : decode cX3_copyPiece 26 = .ok (.if_icmp .ne 62, 3) := by decide +kernel
theorem dX3_copyPiece_29 : decode cX3_copyPiece 29 = .ok (.iload_n 2, 1) := by decide +kernel
theorem dX3_copyPiece_30 : decode cX3_copyPiece 30 = .ok (.ifCond .lt 58, 3) := by decide +kernel
theorem dX3_copyPiece_33 : decode cX3_copyPiece 33 = .ok (.iload_n 2, 1) := by decide +kernel
theorem dX3_copyPiece_34 : decode cX3_copyPiece 34 = .ok (.aload_n 0, 1) := by decide +kernel
theorem dX3_copyPiece_35 : decode cX3_copyPiece 35 = .ok (.getfield 36, 3) := by decide +kernel
theorem dX3_copyPiece_38 : decode cX3_copyPiece 38 = .ok (.iload 4, 2) := by decide +kernel
theorem dX3_copyPiece_40 : decode cX3_copyPiece 40 = .ok (.iaload, 1) := by decide +kernel
theorem dX3_copyPiece_41 : decode cX3_copyPiece 41 = .ok (.iconst 1, 1) := by decide +kernel
theorem dX3_copyPiece_42 : decode cX3_copyPiece 42 = .ok (.isub, 1) := by decide +kernel
theorem dX3_copyPiece_43 : decode cX3_copyPiece 43 = .ok (.bipush 64, 2) := by decide +kernel
theorem dX3_copyPiece_45 : decode cX3_copyPiece 45 = .ok (.idiv, 1) := by decide +kernel
theorem dX3_copyPiece_46 : decode cX3_copyPiece 46 = .ok (.if_icmp .gt 42, 3) := by decide +kernel
theorem dX3_copyPiece_49 : decode cX3_copyPiece 49 = .ok (.iload_n 2, 1) := by decide +kernel
theorem dX3_copyPiece_50 : decode cX3_copyPiece 50 = .ok (.bipush 64, 2) := by decide +kernel
theorem dX3_copyPiece_52 : decode cX3_copyPiece 52 = .ok (.imul, 1) := by decide +kernel
theorem dX3_copyPiece_53 : decode cX3_copyPiece 53 = .ok (.istore 5, 2) := by decide +kernel
theorem dX3_copyPiece_55 : decode cX3_copyPiece 55 = .ok (.aload_n 3, 1) := by decide +kernel
theorem dX3_copyPiece_56 : decode cX3_copyPiece 56 = .ok (.invokevirtual 82, 3) := by decide +kernel
theorem dX3_copyPiece_59 : decode cX3_copyPiece 59 = .ok (.aload_n 0, 1) := by decide +kernel
theorem dX3_copyPiece_60 : decode cX3_copyPiece 60 = .ok (.aload_n 3, 1) := by decide +kernel
theorem dX3_copyPiece_61 : decode cX3_copyPiece 61 = .ok (.iload 4, 2) := by decide +kernel
theorem dX3_copyPiece_63 : decode cX3_copyPiece 63 = .ok (.iload 5, 2) := by decide +kernel
theorem dX3_copyPiece_65 : decode cX3_copyPiece 65 = .ok (.iload 5, 2) := by decide +kernel
theorem dX3_copyPiece_67 : decode cX3_copyPiece 67 = .ok (.bipush 64, 2) := by decide +kernel
theorem dX3_copyPiece_69 : decode cX3_copyPiece 69 = .ok (.iadd, 1) := by decide +kernel
theorem dX3_copyPiece_70 : decode cX3_copyPiece 70 = .ok (.aload_n 0, 1) := by decide +kernel
theorem dX3_copyPiece_71 : decode cX3_copyPiece 71 = .ok (.getfield 36, 3) := by decide +kernel
theorem dX3_copyPiece_74 : decode cX3_copyPiece 74 = .ok (.iload 4, 2) := by decide +kernel
theorem dX3_copyPiece_76 : decode cX3_copyPiece 76 = .ok (.iaload, 1) := by decide +kernel
theorem dX3_copyPiece_77 : decode cX3_copyPiece 77 = .ok (.invokestatic 122, 3) := by decide +kernel
theorem dX3_copyPiece_80 : decode cX3_copyPiece 80 = .ok (.invokevirtual 85, 3) := by decide +kernel
theorem dX3_copyPiece_83 : decode cX3_copyPiece 83 = .ok (.aload_n 3, 1) := by decide +kernel
theorem dX3_copyPiece_84 : decode cX3_copyPiece 84 = .ok (.invokevirtual 106, 3) := by decide +kernel
theorem dX3_copyPiece_87 : decode cX3_copyPiece 87 = .ok (.ireturn, 1) := by decide +kernel
theorem dX3_copyPiece_88 : decode cX3_copyPiece 88 = .ok (.iinc 4 1, 3) := by decide +kernel
theorem dX3_copyPiece_91 : decode cX3_copyPiece 91 = .ok (.goto (-88), 3) := by decide +kernel
theorem dX3_copyPiece_94 : decode cX3_copyPiece 94 = .ok (.iconst (-1), 1) := by decide +kernel
theorem dX3_copyPiece_95 : decode cX3_copyPiece 95 = .ok (.ireturn, 1) := by decide +kernel
