theorem dX11_fail_13 : decode cX11_fail 13 = .ok (.isub, 1) := by decide +kernel
theorem dX11_fail_14 : decode cX11_fail 14 = .ok (.ireturn, 1) := by decide +kernel
theorem dX11_begin_0 : decode cX11_begin 0 = .ok (.iload_n 1, 1) := by decide +kernel
theorem dX11_begin_1 : decode cX11_begin 1 = .ok (.ifCond .ge 5, 3) := by decide +kernel
theorem dX11_begin_4 : decode cX11_begin 4 = .ok (.iconst (-1), 1) := by decide +kernel
theorem dX11_begin_5 : decode cX11_begin 5 = .ok (.ireturn, 1) := by decide +kernel
theorem dX11_begin_6 : decode cX11_begin 6 = .ok (.aload_n 0, 1) := by decide +kernel
theorem dX11_begin_7 : decode cX11_begin 7 = .ok (.getfield 124, 3) := by decide +kernel
theorem dX11_begin_10 : decode cX11_begin 10 = .ok (.ifCond .eq 6, 3) := by decide +kernel
theorem dX11_begin_13 : decode cX11_begin 13 = .ok (.bipush (-3), 2) := by decide +kernel
theorem dX11_begin_15 : decode cX11_begin 15 = .ok (.ireturn, 1) := by decide +kernel
theorem dX11_begin_16 : decode cX11_begin 16 = .ok (.aload_n 0, 1) := by decide +kernel
theorem dX11_begin_17 : decode cX11_begin 17 = .ok (.getfield 134, 3) := by decide +kernel
theorem dX11_begin_20 : decode cX11_begin 20 = .ok (.ifCond .ne 17, 3) := by decide +kernel
theorem dX11_begin_23 : decode cX11_begin 23 = .ok (.aload_n 0, 1) := by decide +kernel
theorem dX11_begin_24 : decode cX11_begin 24 = .ok (.getfield 128, 3) := by decide +kernel
theorem dX11_begin_27 : decode cX11_begin 27 = .ok (.ifCond .eq 10, 3) := by decide +kernel
theorem dX11_begin_30 : decode cX11_begin 30 = .ok (.aload_n 0, 1) := by decide +kernel
theorem dX11_begin_31 : decode cX11_begin 31 = .ok (.getfield 131, 3) := by decide +kernel
theorem dX11_begin_34 : decode cX11_begin 34 = .ok (.ifCond .eq 6, 3) := by decide +kernel
theorem dX11_begin_37 : decode cX11_begin 37 = .ok (.bipush (-4), 2) := by decide +kernel
theorem dX11_begin_39 : decode cX11_begin 39 = .ok (.ireturn, 1) := by decide +kernel
theorem dX11_begin_40 : decode cX11_begin 40 = .ok (.aload_n 0, 1) := by decide +kernel
theorem dX11_begin_41 : decode cX11_begin 41 = .ok (.iload_n 1, 1) := by decide +kernel
theorem dX11_begin_42 : decode cX11_begin 42 = .ok (.putfield 301, 3) := by decide +kernel
theorem dX11_begin_45 : decode cX11_begin 45 = .ok (.aload_n 0, 1) := by decide +kernel
theorem dX11_begin_46 : decode cX11_begin 46 = .ok (.iconst 1, 1) := by decide +kernel
theorem dX11_begin_47 : decode cX11_begin 47 = .ok (.putfield 134, 3) := by decide +kernel
theorem dX11_begin_50 : decode cX11_begin 50 = .ok (.aload_n 0, 1) := by decide +kernel
theorem dX11_begin_51 : decode cX11_begin 51 = .ok (.iconst 0, 1) := by decide +kernel
theorem dX11_begin_52 : decode cX11_begin 52 = .ok (.putfield 298, 3) := by decide +kernel
theorem dX11_begin_55 : decode cX11_begin 55 = .ok (.iconst 1, 1) := by decide +kernel
theorem dX11_begin_56 : decode cX11_begin 56 = .ok (.ireturn, 1) := by decide +kernel
theorem dX11_answer_0 : decode cX11_answer 0 = .ok (.aload_n 0, 1) := by decide +kernel
theorem dX11_answer_1 : decode cX11_answer 1 = .ok (.getfield 124, 3) := by decide +kernel
theorem dX11_answer_4 : decode cX11_answer 4 = .ok (.ifCond .eq 6, 3) := by decide +kernel
theorem dX11_answer_7 : decode cX11_answer 7 = .ok (.bipush (-3), 2) := by decide +kernel
theorem dX11_answer_9 : decode cX11_answer 9 = .ok (.ireturn, 1) := by decide +kernel
theorem dX11_answer_10 : decode cX11_answer 10 = .ok (.aload_n 0, 1) := by decide +kernel
theorem dX11_answer_11 : decode cX11_answer 11 = .ok (.getfield 134, 3) := by decide +kernel
theorem dX11_answer_14 : decode cX11_answer 14 = .ok (.ifCond .ne 6, 3) := by decide +kernel
theorem dX11_answer_17 : decode cX11_answer 17 = .ok (.bipush (-4), 2) := by decide +kernel
theorem dX11_answer_19 : decode cX11_answer 19 = .ok (.ireturn, 1) := by decide +kernel
theorem dX11_answer_20 : decode cX11_answer 20 = .ok (.aload_n 0, 1) := by decide +kernel
theorem dX11_answer_21 : decode cX11_answer 21 = .ok (.getfield 121, 3) := by decide +kernel
theorem dX11_answer_24 : decode cX11_answer 24 = .ok (.istore_n 1, 1) := by decide +kernel
theorem dX11_answer_25 : decode cX11_answer 25 = .ok (.aload_n 0, 1) := by decide +kernel
theorem dX11_answer_26 : decode cX11_answer 26 = .ok (.iconst 0, 1) := by decide +kernel
theorem dX11_answer_27 : decode cX11_answer 27 = .ok (.putfield 121, 3) := by decide +kernel
theorem dX11_answer_30 : decode cX11_answer 30 = .ok (.aload_n 0, 1) := by decide +kernel
theorem dX11_answer_31 : decode cX11_answer 31 = .ok (.getfield 134, 3) := by decide +kernel
theorem dX11_answer_34 : decode cX11_answer 34 = .ok (.iconst 5, 1) := by decide +kernel
theorem dX11_answer_35 : decode cX11_answer 35 = .ok (.if_icmp .ne 12, 3) := by decide +kernel
theorem dX11_answer_38 : decode cX11_answer 38 = .ok (.aload_n 0, 1) := by decide +kernel
theorem dX11_answer_39 : decode cX11_answer 39 = .ok (.iload_n 1, 1) := by decide +kernel
theorem dX11_answer_40 : decode cX11_answer 40 = .ok (.invokevirtual 304, 3) := by decide +kernel
theorem dX11_answer_43 : decode cX11_answer 43 = .ok (.istore_n 2, 1) := by decide +kernel
theorem dX11_answer_44 : decode cX11_answer 44 = .ok (.goto 128, 3) := by decide +kernel
theorem dX11_answer_47 : decode cX11_answer 47 = .ok (.aload_n 0, 1) := by decide +kernel
theorem dX11_answer_48 : decode cX11_answer 48 = .ok (.iload_n 1, 1) := by decide +kernel
theorem dX11_answer_49 : decode cX11_answer 49 = .ok (.putfield 217, 3) := by decide +kernel
theorem dX11_answer_52 : decode cX11_answer 52 = .ok (.aload_n 0, 1) := by decide +kernel
theorem dX11_answer_53 : decode cX11_answer 53 = .ok (.iload_n 1, 1) := by decide +kernel
theorem dX11_answer_54 : decode cX11_answer 54 = .ok (.putfield 295, 3) := by decide +kernel
theorem dX11_answer_57 : decode cX11_answer 57 = .ok (.iconst 0, 1) := by decide +kernel
theorem dX11_answer_58 : decode cX11_answer 58 = .ok (.istore_n 3, 1) := by decide +kernel
theorem dX11_answer_59 : decode cX11_answer 59 = .ok (.iload_n 3, 1) := by decide +kernel
theorem dX11_answer_60 : decode cX11_answer 60 = .ok (.iload_n 1, 1) := by decide +kernel
theorem dX11_answer_61 : decode cX11_answer 61 = .ok (.if_icmp .ge 33, 3) := by decide +kernel
theorem dX11_answer_64 : decode cX11_answer 64 = .ok (.aload_n 0, 1) := by decide +kernel
theorem dX11_answer_65 : decode cX11_answer 65 = .ok (.getfield 23, 3) := by decide +kernel
theorem dX11_answer_68 : decode cX11_answer 68 = .ok (.iload_n 3, 1) := by decide +kernel
theorem dX11_answer_69 : decode cX11_answer 69 = .ok (.aload_n 0, 1) := by decide +kernel
theorem dX11_answer_70 : decode cX11_answer 70 = .ok (.getfield 17, 3) := by decide +kernel
theorem dX11_answer_73 : decode cX11_answer 73 = .ok (.iload_n 3, 1) := by decide +kernel
theorem dX11_answer_74 : decode cX11_answer 74 = .ok (.iaload, 1) := by decide +kernel
theorem dX11_answer_75 : decode cX11_answer 75 = .ok (.iastore, 1) := by decide +kernel
theorem dX11_answer_76 : decode cX11_answer 76 = .ok (.aload_n 0, 1) := by decide +kernel
theorem dX11_answer_77 : decode cX11_answer 77 = .ok (.getfield 51, 3) := by decide +kernel
theorem dX11_answer_80 : decode cX11_answer 80 = .ok (.iload_n 3, 1) := by decide +kernel
theorem dX11_answer_81 : decode cX11_answer 81 = .ok (.aload_n 0, 1) := by decide +kernel
theorem dX11_answer_82 : decode cX11_answer 82 = .ok (.getfield 17, 3) := by decide +kernel
theorem dX11_answer_85 : decode cX11_answer 85 = .ok (.iload_n 3, 1) := by decide +kernel
theorem dX11_answer_86 : decode cX11_answer 86 = .ok (.iaload, 1) := by decide +kernel
theorem dX11_answer_87 : decode cX11_answer 87 = .ok (.iastore, 1) := by decide +kernel
theorem dX11_answer_88 : decode cX11_answer 88 = .ok (.iinc 3 1, 3) := by decide +kernel
theorem dX11_answer_91 : decode cX11_answer 91 = .ok (.goto (-32), 3) := by decide +kernel
theorem dX11_answer_94 : decode cX11_answer 94 = .ok (.aload_n 0, 1) := by decide +kernel
theorem dX11_answer_95 : decode cX11_answer 95 = .ok (.invokevirtual 270, 3) := by decide +kernel
theorem dX11_answer_98 : decode cX11_answer 98 = .ok (.ifCond .eq 16, 3) := by decide +kernel
theorem dX11_answer_101 : decode cX11_answer 101 = .ok (.aload_n 0, 1) := by decide +kernel
theorem dX11_answer_102 : decode cX11_answer 102 = .ok (.getfield 220, 3) := by decide +kernel
theorem dX11_answer_105 : decode cX11_answer 105 = .ok (.aload_n 0, 1) := by decide +kernel
theorem dX11_answer_106 : decode cX11_answer 106 = .ok (.getfield 134, 3) := by decide +kernel
theorem dX11_answer_109 : decode cX11_answer 109 = .ok (.iconst 1, 1) := by decide +kernel
theorem dX11_answer_110 : decode cX11_answer 110 = .ok (.isub, 1) := by decide +kernel
theorem dX11_answer_111 : decode cX11_answer 111 = .ok (.if_icmp .eq 11, 3) := by decide +kernel
theorem dX11_answer_114 : decode cX11_answer 114 = .ok (.aload_n 0, 1) := by decide +kernel
theorem dX11_answer_115 : decode cX11_answer 115 = .ok (.iconst 1, 1) := by decide +kernel
theorem dX11_answer_116 : decode cX11_answer 116 = .ok (.invokevirtual 307, 3) := by decide +kernel
theorem dX11_answer_119 : decode cX11_answer 119 = .ok (.goto 52, 3) := by decide +kernel
theorem dX11_answer_122 : decode cX11_answer 122 = .ok (.aload_n 0, 1) := by decide +kernel
theorem dX11_answer_123 : decode cX11_answer 123 = .ok (.getfield 134, 3) := by decide +kernel
theorem dX11_answer_126 : decode cX11_answer 126 = .ok (.iconst 1, 1) := by decide +kernel
theorem dX11_answer_127 : decode cX11_answer 127 = .ok (.if_icmp .ne 10, 3) := by decide +kernel
theorem dX11_answer_130 : decode cX11_answer 130 = .ok (.aload_n 0, 1) := by decide +kernel
theorem dX11_answer_131 : decode cX11_answer 131 = .ok (.invokevirtual 310, 3) := by decide +kernel
theorem dX11_answer_134 : decode cX11_answer 134 = .ok (.goto 37, 3) := by decide +kernel
theorem dX11_answer_137 : decode cX11_answer 137 = .ok (.aload_n 0, 1) := by decide +kernel
theorem dX11_answer_138 : decode cX11_answer 138 = .ok (.getfield 134, 3) := by decide +kernel
theorem dX11_answer_141 : decode cX11_answer 141 = .ok (.iconst 2, 1) := by decide +kernel
theorem dX11_answer_142 : decode cX11_answer 142 = .ok (.if_icmp .ne 10, 3) := by decide +kernel
theorem dX11_answer_145 : decode cX11_answer 145 = .ok (.aload_n 0, 1) := by decide +kernel
theorem dX11_answer_146 : decode cX11_answer 146 = .ok (.invokevirtual 313, 3) := by decide +kernel
theorem dX11_answer_149 : decode cX11_answer 149 = .ok (.goto 22, 3) := by decide +kernel
theorem dX11_answer_152 : decode cX11_answer 152 = .ok (.aload_n 0, 1) := by decide +kernel
theorem dX11_answer_153 : decode cX11_answer 153 = .ok (.getfield 134, 3) := by decide +kernel
theorem dX11_answer_156 : decode cX11_answer 156 = .ok (.iconst 3, 1) := by decide +kernel
theorem dX11_answer_157 : decode cX11_answer 157 = .ok (.if_icmp .ne 10, 3) := by decide +kernel
theorem dX11_answer_160 : decode cX11_answer 160 = .ok (.aload_n 0, 1) := by decide +kernel
theorem dX11_answer_161 : decode cX11_answer 161 = .ok (.invokevirtual 316, 3) := by decide +kernel
theorem dX11_answer_164 : decode cX11_answer 164 = .ok (.goto 7, 3) := by decide +kernel
theorem dX11_answer_167 : decode cX11_answer 167 = .ok (.aload_n 0, 1) := by decide +kernel
theorem dX11_answer_168 : decode cX11_answer 168 = .ok (.invokevirtual 319, 3) := by decide +kernel
theorem dX11_answer_171 : decode cX11_answer 171 = .ok (.istore_n 2, 1) := by decide +kernel
theorem dX11_answer_172 : decode cX11_answer 172 = .ok (.aload_n 0, 1) := by decide +kernel
theorem dX11_answer_173 : decode cX11_answer 173 = .ok (.getfield 124, 3) := by decide +kernel
theorem dX11_answer_176 : decode cX11_answer 176 = .ok (.ifCond .eq 8, 3) := by decide +kernel
theorem dX11_answer_179 : decode cX11_answer 179 = .ok (.bipush (-3), 2) := by decide +kernel
theorem dX11_answer_181 : decode cX11_answer 181 = .ok (.goto 4, 3) := by decide +kernel
theorem dX11_answer_184 : decode cX11_answer 184 = .ok (.iload_n 2, 1) := by decide +kernel
theorem dX11_answer_185 : decode cX11_answer 185 = .ok (.ireturn, 1) := by decide +kernel
theorem dX11_refuse_0 : decode cX11_refuse 0 = .ok (.aload_n 0, 1) := by decide +kernel
theorem dX11_refuse_1 : decode cX11_refuse 1 = .ok (.getfield 124, 3) := by decide +kernel
theorem dX11_refuse_4 : decode cX11_refuse 4 = .ok (.ifCond .eq 6, 3) := by decide +kernel
theorem dX11_refuse_7 : decode cX11_refuse 7 = .ok (.bipush (-3), 2) := by decide +kernel
theorem dX11_refuse_9 : decode cX11_refuse 9 = .ok (.ireturn, 1) := by decide +kernel
theorem dX11_refuse_10 : decode cX11_refuse 10 = .ok (.aload_n 0, 1) := by decide +kernel
theorem dX11_refuse_11 : decode cX11_refuse 11 = .ok (.getfield 134, 3) := by decide +kernel
theorem dX11_refuse_14 : decode cX11_refuse 14 = .ok (.ifCond .ne 6, 3) := by decide +kernel
theorem dX11_refuse_17 : decode cX11_refuse 17 = .ok (.bipush (-4), 2) := by decide +kernel
theorem dX11_refuse_19 : decode cX11_refuse 19 = .ok (.ireturn, 1) := by decide +kernel
theorem dX11_refuse_20 : decode cX11_refuse 20 = .ok (.aload_n 0, 1) := by decide +kernel
theorem dX11_refuse_21 : decode cX11_refuse 21 = .ok (.getfield 134, 3) := by decide +kernel
theorem dX11_refuse_24 : decode cX11_refuse 24 = .ok (.iconst 1, 1) := by decide +kernel
theorem dX11_refuse_25 : decode cX11_refuse 25 = .ok (.if_icmp .eq 10, 3) := by decide +kernel
theorem dX11_refuse_28 : decode cX11_refuse 28 = .ok (.aload_n 0, 1) := by decide +kernel
theorem dX11_refuse_29 : decode cX11_refuse 29 = .ok (.bipush 6, 2) := by decide +kernel
theorem dX11_refuse_31 : decode cX11_refuse 31 = .ok (.invokevirtual 307, 3) := by decide +kernel
theorem dX11_refuse_34 : decode cX11_refuse 34 = .ok (.ireturn, 1) := by decide +kernel
theorem dX11_refuse_35 : decode cX11_refuse 35 = .ok (.aload_n 0, 1) := by decide +kernel
theorem dX11_refuse_36 : decode cX11_refuse 36 = .ok (.iconst 0, 1) := by decide +kernel
theorem dX11_refuse_37 : decode cX11_refuse 37 = .ok (.invokevirtual 322, 3) := by decide +kernel
theorem dX11_refuse_40 : decode cX11_refuse 40 = .ok (.istore_n 1, 1) := by decide +kernel
theorem dX11_refuse_41 : decode cX11_refuse 41 = .ok (.aload_n 0, 1) := by decide +kernel
theorem dX11_refuse_42 : decode cX11_refuse 42 = .ok (.getfield 238, 3) := by decide +kernel
theorem dX11_refuse_45 : decode cX11_refuse 45 = .ok (.aload_n 0, 1) := by decide +kernel
theorem dX11_refuse_46 : decode cX11_refuse 46 = .ok (.getfield 301, 3) := by decide +kernel
theorem dX11_refuse_49 : decode cX11_refuse 49 = .ok (.i2l, 1) := by decide +kernel
theorem dX11_refuse_50 : decode cX11_refuse 50 = .ok (.lcmp, 1) := by decide +kernel
theorem dX11_refuse_51 : decode cX11_refuse 51 = .ok (.ifCond .gt 9, 3) := by decide +kernel
theorem dX11_refuse_54 : decode cX11_refuse 54 = .ok (.aload_n 0, 1) := by decide +kernel
theorem dX11_refuse_55 : decode cX11_refuse 55 = .ok (.iconst 4, 1) := by decide +kernel
theorem dX11_refuse_56 : decode cX11_refuse 56 = .ok (.invokevirtual 307, 3) := by decide +kernel
theorem dX11_refuse_59 : decode cX11_refuse 59 = .ok (.ireturn, 1) := by decide +kernel
theorem dX11_refuse_60 : decode cX11_refuse 60 = .ok (.aload_n 0, 1) := by decide +kernel
theorem dX11_refuse_61 : decode cX11_refuse 61 = .ok (.iconst 2, 1) := by decide +kernel
theorem dX11_refuse_62 : decode cX11_refuse 62 = .ok (.putfield 134, 3) := by decide +kernel
theorem dX11_refuse_65 : decode cX11_refuse 65 = .ok (.iconst 2, 1) := by decide +kernel
theorem dX11_refuse_66 : decode cX11_refuse 66 = .ok (.ireturn, 1) := by decide +kernel
theorem dX11_takeRole_0 : decode cX11_takeRole 0 = .ok (.aload_n 0, 1) := by decide +kernel
theorem dX11_takeRole_1 : decode cX11_takeRole 1 = .ok (.iconst 0, 1) := by decide +kernel
theorem dX11_takeRole_2 : decode cX11_takeRole 2 = .ok (.invokevirtual 322, 3) := by decide +kernel
theorem dX11_takeRole_5 : decode cX11_takeRole 5 = .ok (.istore_n 2, 1) := by decide +kernel
theorem dX11_takeRole_6 : decode cX11_takeRole 6 = .ok (.aload_n 0, 1) := by decide +kernel
theorem dX11_takeRole_7 : decode cX11_takeRole 7 = .ok (.aload_n 0, 1) := by decide +kernel
theorem dX11_takeRole_8 : decode cX11_takeRole 8 = .ok (.getfield 26, 3) := by decide +kernel
theorem dX11_takeRole_11 : decode cX11_takeRole 11 = .ok (.iload_n 1, 1) := by decide +kernel
theorem dX11_takeRole_12 : decode cX11_takeRole 12 = .ok (.iaload, 1) := by decide +kernel
theorem dX11_takeRole_13 : decode cX11_takeRole 13 = .ok (.putfield 325, 3) := by decide +kernel
theorem dX11_takeRole_16 : decode cX11_takeRole 16 = .ok (.aload_n 0, 1) := by decide +kernel
theorem dX11_takeRole_17 : decode cX11_takeRole 17 = .ok (.aload_n 0, 1) := by decide +kernel
theorem dX11_takeRole_18 : decode cX11_takeRole 18 = .ok (.getfield 29, 3) := by decide +kernel
theorem dX11_takeRole_21 : decode cX11_takeRole 21 = .ok (.iload_n 1, 1) := by decide +kernel
theorem dX11_takeRole_22 : decode cX11_takeRole 22 = .ok (.iaload, 1) := by decide +kernel
theorem dX11_takeRole_23 : decode cX11_takeRole 23 = .ok (.putfield 328, 3) := by decide +kernel
theorem dX11_takeRole_26 : decode cX11_takeRole 26 = .ok (.return_, 1) := by decide +kernel
theorem dX11_takeRoot_0 : decode cX11_takeRoot 0 = .ok (.aload_n 0, 1) := by decide +kernel
theorem dX11_takeRoot_1 : decode cX11_takeRoot 1 = .ok (.iconst 0, 1) := by decide +kernel
theorem dX11_takeRoot_2 : decode cX11_takeRoot 2 = .ok (.invokevirtual 322, 3) := by decide +kernel
theorem dX11_takeRoot_5 : decode cX11_takeRoot 5 = .ok (.istore_n 1, 1) := by decide +kernel
theorem dX11_takeRoot_6 : decode cX11_takeRoot 6 = .ok (.aload_n 0, 1) := by decide +kernel
theorem dX11_takeRoot_7 : decode cX11_takeRoot 7 = .ok (.getfield 235, 3) := by decide +kernel
theorem dX11_takeRoot_10 : decode cX11_takeRoot 10 = .ok (.istore_n 2, 1) := by decide +kernel
theorem dX11_takeRoot_11 : decode cX11_takeRoot 11 = .ok (.aload_n 0, 1) := by decide +kernel
theorem dX11_takeRoot_12 : decode cX11_takeRoot 12 = .ok (.getfield 26, 3) := by decide +kernel
theorem dX11_takeRoot_15 : decode cX11_takeRoot 15 = .ok (.iconst 0, 1) := by decide +kernel
theorem dX11_takeRoot_16 : decode cX11_takeRoot 16 = .ok (.iaload, 1) := by decide +kernel
theorem dX11_takeRoot_17 : decode cX11_takeRoot 17 = .ok (.istore_n 3, 1) := by decide +kernel
theorem dX11_takeRoot_18 : decode cX11_takeRoot 18 = .ok (.aload_n 0, 1) := by decide +kernel
theorem dX11_takeRoot_19 : decode cX11_takeRoot 19 = .ok (.getfield 29, 3) := by decide +kernel
theorem dX11_takeRoot_22 : decode cX11_takeRoot 22 = .ok (.iconst 0, 1) := by decide +kernel
theorem dX11_takeRoot_23 : decode cX11_takeRoot 23 = .ok (.iaload, 1) := by decide +kernel
theorem dX11_takeRoot_24 : decode cX11_takeRoot 24 = .ok (.istore 4, 2) := by decide +kernel
theorem dX11_takeRoot_26 : decode cX11_takeRoot 26 = .ok (.aload_n 0, 1) := by decide +kernel
theorem dX11_takeRoot_27 : decode cX11_takeRoot 27 = .ok (.getfield 26, 3) := by decide +kernel
theorem dX11_takeRoot_30 : decode cX11_takeRoot 30 = .ok (.iconst 1, 1) := by decide +kernel
theorem dX11_takeRoot_31 : decode cX11_takeRoot 31 = .ok (.iaload, 1) := by decide +kernel
theorem dX11_takeRoot_32 : decode cX11_takeRoot 32 = .ok (.istore 5, 2) := by decide +kernel
theorem dX11_takeRoot_34 : decode cX11_takeRoot 34 = .ok (.aload_n 0, 1) := by decide +kernel
theorem dX11_takeRoot_35 : decode cX11_takeRoot 35 = .ok (.getfield 29, 3) := by decide +kernel
theorem dX11_takeRoot_38 : decode cX11_takeRoot 38 = .ok (.iconst 1, 1) := by decide +kernel
theorem dX11_takeRoot_39 : decode cX11_takeRoot 39 = .ok (.iaload, 1) := by decide +kernel
theorem dX11_takeRoot_40 : decode cX11_takeRoot 40 = .ok (.istore 6, 2) := by decide +kernel
theorem dX11_takeRoot_42 : decode cX11_takeRoot 42 = .ok (.aload_n 0, 1) := by decide +kernel
theorem dX11_takeRoot_43 : decode cX11_takeRoot 43 = .ok (.getfield 26, 3) := by decide +kernel
theorem dX11_takeRoot_46 : decode cX11_takeRoot 46 = .ok (.iconst 2, 1) := by decide +kernel
theorem dX11_takeRoot_47 : decode cX11_takeRoot 47 = .ok (.iaload, 1) := by decide +kernel
theorem dX11_takeRoot_48 : decode cX11_takeRoot 48 = .ok (.istore 7, 2) := by decide +kernel
theorem dX11_takeRoot_50 : decode cX11_takeRoot 50 = .ok (.aload_n 0, 1) := by decide +kernel
theorem dX11_takeRoot_51 : decode cX11_takeRoot 51 = .ok (.getfield 29, 3) := by decide +kernel
theorem dX11_takeRoot_54 : decode cX11_takeRoot 54 = .ok (.iconst 2, 1) := by decide +kernel
theorem dX11_takeRoot_55 : decode cX11_takeRoot 55 = .ok (.iaload, 1) := by decide +kernel
theorem dX11_takeRoot_56 : decode cX11_takeRoot 56 = .ok (.istore 8, 2) := by decide +kernel
theorem dX11_takeRoot_58 : decode cX11_takeRoot 58 = .ok (.aload_n 0, 1) := by decide +kernel
theorem dX11_takeRoot_59 : decode cX11_takeRoot 59 = .ok (.invokevirtual 331, 3) := by decide +kernel
theorem dX11_takeRoot_62 : decode cX11_takeRoot 62 = .ok (.aload_n 0, 1) := by decide +kernel
theorem dX11_takeRoot_63 : decode cX11_takeRoot 63 = .ok (.getfield 235, 3) := by decide +kernel
theorem dX11_takeRoot_66 : decode cX11_takeRoot 66 = .ok (.iload_n 2, 1) := by decide +kernel
theorem dX11_takeRoot_67 : decode cX11_takeRoot 67 = .ok (.iconst 1, 1) := by decide +kernel
theorem dX11_takeRoot_68 : decode cX11_takeRoot 68 = .ok (.iadd, 1) := by decide +kernel
theorem dX11_takeRoot_69 : decode cX11_takeRoot 69 = .ok (.if_icmp .eq 9, 3) := by decide +kernel
theorem dX11_takeRoot_72 : decode cX11_takeRoot 72 = .ok (.aload_n 0, 1) := by decide +kernel
theorem dX11_takeRoot_73 : decode cX11_takeRoot 73 = .ok (.iconst 3, 1) := by decide +kernel
theorem dX11_takeRoot_74 : decode cX11_takeRoot 74 = .ok (.invokevirtual 307, 3) := by decide +kernel
theorem dX11_takeRoot_77 : decode cX11_takeRoot 77 = .ok (.ireturn, 1) := by decide +kernel
theorem dX11_takeRoot_78 : decode cX11_takeRoot 78 = .ok (.aload_n 0, 1) := by decide +kernel
theorem dX11_takeRoot_79 : decode cX11_takeRoot 79 = .ok (.iload_n 3, 1) := by decide +kernel
theorem dX11_takeRoot_80 : decode cX11_takeRoot 80 = .ok (.iload 4, 2) := by decide +kernel
theorem dX11_takeRoot_82 : decode cX11_takeRoot 82 = .ok (.invokevirtual 334, 3) := by decide +kernel
theorem dX11_takeRoot_85 : decode cX11_takeRoot 85 = .ok (.ifCond .eq 22, 3) := by decide +kernel
theorem dX11_takeRoot_88 : decode cX11_takeRoot 88 = .ok (.aload_n 0, 1) := by decide +kernel
theorem dX11_takeRoot_89 : decode cX11_takeRoot 89 = .ok (.aload_n 0, 1) := by decide +kernel
theorem dX11_takeRoot_90 : decode cX11_takeRoot 90 = .ok (.getfield 26, 3) := by decide +kernel
theorem dX11_takeRoot_93 : decode cX11_takeRoot 93 = .ok (.iconst 0, 1) := by decide +kernel
theorem dX11_takeRoot_94 : decode cX11_takeRoot 94 = .ok (.iaload, 1) := by decide +kernel
theorem dX11_takeRoot_95 : decode cX11_takeRoot 95 = .ok (.aload_n 0, 1) := by decide +kernel
theorem dX11_takeRoot_96 : decode cX11_takeRoot 96 = .ok (.getfield 29, 3) := by decide +kernel
theorem dX11_takeRoot_99 : decode cX11_takeRoot 99 = .ok (.iconst 0, 1) := by decide +kernel
theorem dX11_takeRoot_100 : decode cX11_takeRoot 100 = .ok (.iaload, 1) := by decide +kernel
theorem dX11_takeRoot_101 : decode cX11_takeRoot 101 = .ok (.invokevirtual 334, 3) := by decide +kernel
theorem dX11_takeRoot_104 : decode cX11_takeRoot 104 = .ok (.ifCond .ne 9, 3) := by decide +kernel
theorem dX11_takeRoot_107 : decode cX11_takeRoot 107 = .ok (.aload_n 0, 1) := by decide +kernel
theorem dX11_takeRoot_108 : decode cX11_takeRoot 108 = .ok (.iconst 2, 1) := by decide +kernel
theorem dX11_takeRoot_109 : decode cX11_takeRoot 109 = .ok (.invokevirtual 307, 3) := by decide +kernel
theorem dX11_takeRoot_112 : decode cX11_takeRoot 112 = .ok (.ireturn, 1) := by decide +kernel
theorem dX11_takeRoot_113 : decode cX11_takeRoot 113 = .ok (.iload 5, 2) := by decide +kernel
theorem dX11_takeRoot_115 : decode cX11_takeRoot 115 = .ok (.aload_n 0, 1) := by decide +kernel
theorem dX11_takeRoot_116 : decode cX11_takeRoot 116 = .ok (.getfield 26, 3) := by decide +kernel
theorem dX11_takeRoot_119 : decode cX11_takeRoot 119 = .ok (.iconst 1, 1) := by decide +kernel
theorem dX11_takeRoot_120 : decode cX11_takeRoot 120 = .ok (.iaload, 1) := by decide +kernel
theorem dX11_takeRoot_121 : decode cX11_takeRoot 121 = .ok (.if_icmp .ne 36, 3) := by decide +kernel
theorem dX11_takeRoot_124 : decode cX11_takeRoot 124 = .ok (.iload 6, 2) := by decide +kernel
theorem dX11_takeRoot_126 : decode cX11_takeRoot 126 = .ok (.aload_n 0, 1) := by decide +kernel
theorem dX11_takeRoot_127 : decode cX11_takeRoot 127 = .ok (.getfield 29, 3) := by decide +kernel
theorem dX11_takeRoot_130 : decode cX11_takeRoot 130 = .ok (.iconst 1, 1) := by decide +kernel
theorem dX11_takeRoot_131 : decode cX11_takeRoot 131 = .ok (.iaload, 1) := by decide +kernel
theorem dX11_takeRoot_132 : decode cX11_takeRoot 132 = .ok (.if_icmp .ne 25, 3) := by decide +kernel
theorem dX11_takeRoot_135 : decode cX11_takeRoot 135 = .ok (.iload 7, 2) := by decide +kernel
theorem dX11_takeRoot_137 : decode cX11_takeRoot 137 = .ok (.aload_n 0, 1) := by decide +kernel
theorem dX11_takeRoot_138 : decode cX11_takeRoot 138 = .ok (.getfield 26, 3) := by decide +kernel
theorem dX11_takeRoot_141 : decode cX11_takeRoot 141 = .ok (.iconst 2, 1) := by decide +kernel
theorem dX11_takeRoot_142 : decode cX11_takeRoot 142 = .ok (.iaload, 1) := by decide +kernel
theorem dX11_takeRoot_143 : decode cX11_takeRoot 143 = .ok (.if_icmp .ne 14, 3) := by decide +kernel
theorem dX11_takeRoot_146 : decode cX11_takeRoot 146 = .ok (.iload 8, 2) := by decide +kernel
theorem dX11_takeRoot_148 : decode cX11_takeRoot 148 = .ok (.aload_n 0, 1) := by decide +kernel
theorem dX11_takeRoot_149 : decode cX11_takeRoot 149 = .ok (.getfield 29, 3) := by decide +kernel
theorem dX11_takeRoot_152 : decode cX11_takeRoot 152 = .ok (.iconst 2, 1) := by decide +kernel
theorem dX11_takeRoot_153 : decode cX11_takeRoot 153 = .ok (.iaload, 1) := by decide +kernel
theorem dX11_takeRoot_154 : decode cX11_takeRoot 154 = .ok (.if_icmp .eq 7, 3) := by decide +kernel
theorem dX11_takeRoot_157 : decode cX11_takeRoot 157 = .ok (.iconst 1, 1) := by decide +kernel
theorem dX11_takeRoot_158 : decode cX11_takeRoot 158 = .ok (.goto 4, 3) := by decide +kernel
theorem dX11_takeRoot_161 : decode cX11_takeRoot 161 = .ok (.iconst 0, 1) := by decide +kernel
theorem dX11_takeRoot_162 : decode cX11_takeRoot 162 = .ok (.istore 9, 2) := by decide +kernel
theorem dX11_takeRoot_164 : decode cX11_takeRoot 164 = .ok (.iload 9, 2) := by decide +kernel
theorem dX11_takeRoot_166 : decode cX11_takeRoot 166 = .ok (.ifCond .eq 13, 3) := by decide +kernel
theorem dX11_takeRoot_169 : decode cX11_takeRoot 169 = .ok (.aload_n 0, 1) := by decide +kernel
theorem dX11_takeRoot_170 : decode cX11_takeRoot 170 = .ok (.iconst 1, 1) := by decide +kernel
theorem dX11_takeRoot_171 : decode cX11_takeRoot 171 = .ok (.invokevirtual 338, 3) := by decide +kernel
theorem dX11_takeRoot_174 : decode cX11_takeRoot 174 = .ok (.aload_n 0, 1) := by decide +kernel
theorem dX11_takeRoot_175 : decode cX11_takeRoot 175 = .ok (.iconst 2, 1) := by decide +kernel
theorem dX11_takeRoot_176 : decode cX11_takeRoot 176 = .ok (.invokevirtual 338, 3) := by decide +kernel
theorem dX11_takeRoot_179 : decode cX11_takeRoot 179 = .ok (.aload_n 0, 1) := by decide +kernel
theorem dX11_takeRoot_180 : decode cX11_takeRoot 180 = .ok (.invokevirtual 331, 3) := by decide +kernel
theorem dX11_takeRoot_183 : decode cX11_takeRoot 183 = .ok (.aload_n 0, 1) := by decide +kernel
theorem dX11_takeRoot_184 : decode cX11_takeRoot 184 = .ok (.getfield 124, 3) := by decide +kernel
theorem dX11_takeRoot_187 : decode cX11_takeRoot 187 = .ok (.ifCond .ne 7, 3) := by decide +kernel
theorem dX11_takeRoot_190 : decode cX11_takeRoot 190 = .ok (.aload_n 0, 1) := by decide +kernel
theorem dX11_takeRoot_191 : decode cX11_takeRoot 191 = .ok (.invokevirtual 341, 3) := by decide +kernel
theorem dX11_takeRoot_194 : decode cX11_takeRoot 194 = .ok (.iconst 1, 1) := by decide +kernel
theorem dX11_takeRoot_195 : decode cX11_takeRoot 195 = .ok (.ireturn, 1) := by decide +kernel
theorem dX11_dropTrusted_0 : decode cX11_dropTrusted 0 = .ok (.aload_n 0, 1) := by decide +kernel
theorem dX11_dropTrusted_1 : decode cX11_dropTrusted 1 = .ok (.getfield 124, 3) := by decide +kernel
theorem dX11_dropTrusted_4 : decode cX11_dropTrusted 4 = .ok (.ifCond .ne 17, 3) := by decide +kernel
theorem dX11_dropTrusted_7 : decode cX11_dropTrusted 7 = .ok (.aload_n 0, 1) := by decide +kernel
theorem dX11_dropTrusted_8 : decode cX11_dropTrusted 8 = .ok (.iload_n 1, 1) := by decide +kernel
theorem dX11_dropTrusted_9 : decode cX11_dropTrusted 9 = .ok (.invokevirtual 322, 3) := by decide +kernel
theorem dX11_dropTrusted_12 : decode cX11_dropTrusted 12 = .ok (.ifCond .eq 9, 3) := by decide +kernel
theorem dX11_dropTrusted_15 : decode cX11_dropTrusted 15 = .ok (.aload_n 0, 1) := by decide +kernel
theorem dX11_dropTrusted_16 : decode cX11_dropTrusted 16 = .ok (.iload_n 1, 1) := by decide +kernel
theorem dX11_dropTrusted_17 : decode cX11_dropTrusted 17 = .ok (.iconst 0, 1) := by decide +kernel
theorem dX11_dropTrusted_18 : decode cX11_dropTrusted 18 = .ok (.invokevirtual 291, 3) := by decide +kernel
theorem dX11_dropTrusted_21 : decode cX11_dropTrusted 21 = .ok (.return_, 1) := by decide +kernel
theorem dX11_takeWas_0 : decode cX11_takeWas 0 = .ok (.aload_n 0, 1) := by decide +kernel
theorem dX11_takeWas_1 : decode cX11_takeWas 1 = .ok (.aload_n 0, 1) := by decide +kernel
theorem dX11_takeWas_2 : decode cX11_takeWas 2 = .ok (.iload_n 1, 1) := by decide +kernel
theorem dX11_takeWas_3 : decode cX11_takeWas 3 = .ok (.invokevirtual 322, 3) := by decide +kernel
theorem dX11_takeWas_6 : decode cX11_takeWas 6 = .ok (.putfield 344, 3) := by decide +kernel
theorem dX11_takeWas_9 : decode cX11_takeWas 9 = .ok (.aload_n 0, 1) := by decide +kernel
theorem dX11_takeWas_10 : decode cX11_takeWas 10 = .ok (.aload_n 0, 1) := by decide +kernel
theorem dX11_takeWas_11 : decode cX11_takeWas 11 = .ok (.getfield 344, 3) := by decide +kernel
theorem dX11_takeWas_14 : decode cX11_takeWas 14 = .ok (.ifCond .eq 10, 3) := by decide +kernel
theorem dX11_takeWas_17 : decode cX11_takeWas 17 = .ok (.aload_n 0, 1) := by decide +kernel
theorem dX11_takeWas_18 : decode cX11_takeWas 18 = .ok (.getfield 235, 3) := by decide +kernel
theorem dX11_takeWas_21 : decode cX11_takeWas 21 = .ok (.goto 4, 3) := by decide +kernel
theorem dX11_takeWas_24 : decode cX11_takeWas 24 = .ok (.iconst 0, 1) := by decide +kernel
theorem dX11_takeWas_25 : decode cX11_takeWas 25 = .ok (.putfield 347, 3) := by decide +kernel
theorem dX11_takeWas_28 : decode cX11_takeWas 28 = .ok (.aload_n 0, 1) := by decide +kernel
theorem dX11_takeWas_29 : decode cX11_takeWas 29 = .ok (.aload_n 0, 1) := by decide +kernel
theorem dX11_takeWas_30 : decode cX11_takeWas 30 = .ok (.getfield 344, 3) := by decide +kernel
theorem dX11_takeWas_33 : decode cX11_takeWas 33 = .ok (.ifCond .eq 10, 3) := by decide +kernel
theorem dX11_takeWas_36 : decode cX11_takeWas 36 = .ok (.aload_n 0, 1) := by decide +kernel
theorem dX11_takeWas_37 : decode cX11_takeWas 37 = .ok (.getfield 247, 3) := by decide +kernel
theorem dX11_takeWas_40 : decode cX11_takeWas 40 = .ok (.goto 4, 3) := by decide +kernel
theorem dX11_takeWas_43 : decode cX11_takeWas 43 = .ok (.iconst 0, 1) := by decide +kernel
theorem dX11_takeWas_44 : decode cX11_takeWas 44 = .ok (.putfield 350, 3) := by decide +kernel
theorem dX11_takeWas_47 : decode cX11_takeWas 47 = .ok (.aload_n 0, 1) := by decide +kernel
theorem dX11_takeWas_48 : decode cX11_takeWas 48 = .ok (.aload_n 0, 1) := by decide +kernel
theorem dX11_takeWas_49 : decode cX11_takeWas 49 = .ok (.getfield 344, 3) := by decide +kernel
theorem dX11_takeWas_52 : decode cX11_takeWas 52 = .ok (.ifCond .eq 10, 3) := by decide +kernel
theorem dX11_takeWas_55 : decode cX11_takeWas 55 = .ok (.aload_n 0, 1) := by decide +kernel
theorem dX11_takeWas_56 : decode cX11_takeWas 56 = .ok (.invokevirtual 262, 3) := by decide +kernel
theorem dX11_takeWas_59 : decode cX11_takeWas 59 = .ok (.goto 4, 3) := by decide +kernel
theorem dX11_takeWas_62 : decode cX11_takeWas 62 = .ok (.lconst 0, 1) := by decide +kernel
theorem dX11_takeWas_63 : decode cX11_takeWas 63 = .ok (.putfield 353, 3) := by decide +kernel
theorem dX11_takeWas_66 : decode cX11_takeWas 66 = .ok (.return_, 1) := by decide +kernel
theorem dX11_keepOther_0 : decode cX11_keepOther 0 = .ok (.aload_n 0, 1) := by decide +kernel
theorem dX11_keepOther_1 : decode cX11_keepOther 1 = .ok (.iload_n 1, 1) := by decide +kernel
theorem dX11_keepOther_2 : decode cX11_keepOther 2 = .ok (.invokevirtual 322, 3) := by decide +kernel
theorem dX11_keepOther_5 : decode cX11_keepOther 5 = .ok (.istore_n 2, 1) := by decide +kernel
theorem dX11_keepOther_6 : decode cX11_keepOther 6 = .ok (.iload_n 2, 1) := by decide +kernel
theorem dX11_keepOther_7 : decode cX11_keepOther 7 = .ok (.ifCond .eq 10, 3) := by decide +kernel
theorem dX11_keepOther_10 : decode cX11_keepOther 10 = .ok (.aload_n 0, 1) := by decide +kernel
theorem dX11_keepOther_11 : decode cX11_keepOther 11 = .ok (.getfield 226, 3) := by decide +kernel
theorem dX11_keepOther_14 : decode cX11_keepOther 14 = .ok (.goto 4, 3) := by decide +kernel
theorem dX11_keepOther_17 : decode cX11_keepOther 17 = .ok (.iconst (-1), 1) := by decide +kernel
theorem dX11_keepOther_18 : decode cX11_keepOther 18 = .ok (.istore_n 3, 1) := by decide +kernel
theorem dX11_keepOther_19 : decode cX11_keepOther 19 = .ok (.iconst 0, 1) := by decide +kernel
theorem dX11_keepOther_20 : decode cX11_keepOther 20 = .ok (.istore 4, 2) := by decide +kernel
theorem dX11_keepOther_22 : decode cX11_keepOther 22 = .ok (.iload 4, 2) := by decide +kernel
theorem dX11_keepOther_24 : decode cX11_keepOther 24 = .ok (.aload_n 0, 1) := by decide +kernel
theorem dX11_keepOther_25 : decode cX11_keepOther 25 = .ok (.getfield 217, 3) := by decide +kernel
theorem dX11_keepOther_28 : decode cX11_keepOther 28 = .ok (.if_icmp .ge 23, 3) := by decide +kernel
theorem dX11_keepOther_31 : decode cX11_keepOther 31 = .ok (.aload_n 0, 1) := by decide +kernel
theorem dX11_keepOther_32 : decode cX11_keepOther 32 = .ok (.getfield 48, 3) := by decide +kernel
theorem dX11_keepOther_35 : decode cX11_keepOther 35 = .ok (.iload 4, 2) := by decide +kernel
theorem dX11_keepOther_37 : decode cX11_keepOther 37 = .ok (.aload_n 0, 1) := by decide +kernel
theorem dX11_keepOther_38 : decode cX11_keepOther 38 = .ok (.getfield 23, 3) := by decide +kernel
theorem dX11_keepOther_41 : decode cX11_keepOther 41 = .ok (.iload 4, 2) := by decide +kernel
theorem dX11_keepOther_43 : decode cX11_keepOther 43 = .ok (.iaload, 1) := by decide +kernel
theorem dX11_keepOther_44 : decode cX11_keepOther 44 = .ok (.iastore, 1) := by decide +kernel
theorem dX11_keepOther_45 : decode cX11_keepOther 45 = .ok (.iinc 4 1, 3) := by decide +kernel
theorem dX11_keepOther_48 : decode cX11_keepOther 48 = .ok (.goto (-26), 3) := by decide +kernel
theorem dX11_keepOther_51 : decode cX11_keepOther 51 = .ok (.aload_n 0, 1) := by decide +kernel
theorem dX11_keepOther_52 : decode cX11_keepOther 52 = .ok (.invokevirtual 331, 3) := by decide +kernel
theorem dX11_keepOther_55 : decode cX11_keepOther 55 = .ok (.iload_n 3, 1) := by decide +kernel
theorem dX11_keepOther_56 : decode cX11_keepOther 56 = .ok (.aload_n 0, 1) := by decide +kernel
theorem dX11_keepOther_57 : decode cX11_keepOther 57 = .ok (.getfield 226, 3) := by decide +kernel
theorem dX11_keepOther_60 : decode cX11_keepOther 60 = .ok (.if_icmp .ne 7, 3) := by decide +kernel
theorem dX11_keepOther_63 : decode cX11_keepOther 63 = .ok (.iconst 1, 1) := by decide +kernel
theorem dX11_keepOther_64 : decode cX11_keepOther 64 = .ok (.goto 4, 3) := by decide +kernel
theorem dX11_keepOther_67 : decode cX11_keepOther 67 = .ok (.iconst 0, 1) := by decide +kernel
theorem dX11_keepOther_68 : decode cX11_keepOther 68 = .ok (.istore 4, 2) := by decide +kernel
theorem dX11_keepOther_70 : decode cX11_keepOther 70 = .ok (.iconst 0, 1) := by decide +kernel
theorem dX11_keepOther_71 : decode cX11_keepOther 71 = .ok (.istore 5, 2) := by decide +kernel
theorem dX11_keepOther_73 : decode cX11_keepOther 73 = .ok (.iload 5, 2) := by decide +kernel
theorem dX11_keepOther_75 : decode cX11_keepOther 75 = .ok (.aload_n 0, 1) := by decide +kernel
theorem dX11_keepOther_76 : decode cX11_keepOther 76 = .ok (.getfield 226, 3) := by decide +kernel
theorem dX11_keepOther_79 : decode cX11_keepOther 79 = .ok (.if_icmp .ge 42, 3) := by decide +kernel
theorem dX11_keepOther_82 : decode cX11_keepOther 82 = .ok (.iload 4, 2) := by decide +kernel
theorem dX11_keepOther_84 : decode cX11_keepOther 84 = .ok (.ifCond .eq 37, 3) := by decide +kernel
theorem dX11_keepOther_87 : decode cX11_keepOther 87 = .ok (.aload_n 0, 1) := by decide +kernel
theorem dX11_keepOther_88 : decode cX11_keepOther 88 = .ok (.getfield 48, 3) := by decide +kernel
theorem dX11_keepOther_91 : decode cX11_keepOther 91 = .ok (.iconst 3, 1) := by decide +kernel
theorem dX11_keepOther_92 : decode cX11_keepOther 92 = .ok (.iload 5, 2) := by decide +kernel
theorem dX11_keepOther_94 : decode cX11_keepOther 94 = .ok (.iadd, 1) := by decide +kernel
theorem dX11_keepOther_95 : decode cX11_keepOther 95 = .ok (.iaload, 1) := by decide +kernel
theorem dX11_keepOther_96 : decode cX11_keepOther 96 = .ok (.aload_n 0, 1) := by decide +kernel
theorem dX11_keepOther_97 : decode cX11_keepOther 97 = .ok (.getfield 23, 3) := by decide +kernel
theorem dX11_keepOther_100 : decode cX11_keepOther 100 = .ok (.iconst 3, 1) := by decide +kernel
theorem dX11_keepOther_101 : decode cX11_keepOther 101 = .ok (.iload 5, 2) := by decide +kernel
theorem dX11_keepOther_103 : decode cX11_keepOther 103 = .ok (.iadd, 1) := by decide +kernel
theorem dX11_keepOther_104 : decode cX11_keepOther 104 = .ok (.iaload, 1) := by decide +kernel
theorem dX11_keepOther_105 : decode cX11_keepOther 105 = .ok (.if_icmp .ne 7, 3) := by decide +kernel
theorem dX11_keepOther_108 : decode cX11_keepOther 108 = .ok (.iconst 1, 1) := by decide +kernel
theorem dX11_keepOther_109 : decode cX11_keepOther 109 = .ok (.goto 4, 3) := by decide +kernel
theorem dX11_keepOther_112 : decode cX11_keepOther 112 = .ok (.iconst 0, 1) := by decide +kernel
theorem dX11_keepOther_113 : decode cX11_keepOther 113 = .ok (.istore 4, 2) := by decide +kernel
theorem dX11_keepOther_115 : decode cX11_keepOther 115 = .ok (.iinc 5 1, 3) := by decide +kernel
theorem dX11_keepOther_118 : decode cX11_keepOther 118 = .ok (.goto (-45), 3) := by decide +kernel
theorem dX11_keepOther_121 : decode cX11_keepOther 121 = .ok (.iload 4, 2) := by decide +kernel
theorem dX11_keepOther_123 : decode cX11_keepOther 123 = .ok (.ifCond .ne 7, 3) := by decide +kernel
theorem dX11_keepOther_126 : decode cX11_keepOther 126 = .ok (.aload_n 0, 1) := by decide +kernel
theorem dX11_keepOther_127 : decode cX11_keepOther 127 = .ok (.invokevirtual 341, 3) := by decide +kernel
theorem dX11_keepOther_130 : decode cX11_keepOther 130 = .ok (.return_, 1) := by decide +kernel
theorem dX11_takeTime_0 : decode cX11_takeTime 0 = .ok (.aload_n 0, 1) := by decide +kernel
theorem dX11_takeTime_1 : decode cX11_takeTime 1 = .ok (.iconst 1, 1) := by decide +kernel
theorem dX11_takeTime_2 : decode cX11_takeTime 2 = .ok (.invokevirtual 356, 3) := by decide +kernel
theorem dX11_takeTime_5 : decode cX11_takeTime 5 = .ok (.aload_n 0, 1) := by decide +kernel
theorem dX11_takeTime_6 : decode cX11_takeTime 6 = .ok (.iconst 1, 1) := by decide +kernel
theorem dX11_takeTime_7 : decode cX11_takeTime 7 = .ok (.invokevirtual 359, 3) := by decide +kernel
theorem dX11_takeTime_10 : decode cX11_takeTime 10 = .ok (.aload_n 0, 1) := by decide +kernel
theorem dX11_takeTime_11 : decode cX11_takeTime 11 = .ok (.invokevirtual 331, 3) := by decide +kernel
theorem dX11_takeTime_14 : decode cX11_takeTime 14 = .ok (.aload_n 0, 1) := by decide +kernel
theorem dX11_takeTime_15 : decode cX11_takeTime 15 = .ok (.aload_n 0, 1) := by decide +kernel
theorem dX11_takeTime_16 : decode cX11_takeTime 16 = .ok (.getfield 325, 3) := by decide +kernel
theorem dX11_takeTime_19 : decode cX11_takeTime 19 = .ok (.aload_n 0, 1) := by decide +kernel
theorem dX11_takeTime_20 : decode cX11_takeTime 20 = .ok (.getfield 328, 3) := by decide +kernel
theorem dX11_takeTime_23 : decode cX11_takeTime 23 = .ok (.invokevirtual 334, 3) := by decide +kernel
theorem dX11_takeTime_26 : decode cX11_takeTime 26 = .ok (.ifCond .ne 9, 3) := by decide +kernel
theorem dX11_takeTime_29 : decode cX11_takeTime 29 = .ok (.aload_n 0, 1) := by decide +kernel
theorem dX11_takeTime_30 : decode cX11_takeTime 30 = .ok (.iconst 2, 1) := by decide +kernel
theorem dX11_takeTime_31 : decode cX11_takeTime 31 = .ok (.invokevirtual 307, 3) := by decide +kernel
theorem dX11_takeTime_34 : decode cX11_takeTime 34 = .ok (.ireturn, 1) := by decide +kernel
theorem dX11_takeTime_35 : decode cX11_takeTime 35 = .ok (.aload_n 0, 1) := by decide +kernel
theorem dX11_takeTime_36 : decode cX11_takeTime 36 = .ok (.getfield 235, 3) := by decide +kernel
theorem dX11_takeTime_39 : decode cX11_takeTime 39 = .ok (.aload_n 0, 1) := by decide +kernel
theorem dX11_takeTime_40 : decode cX11_takeTime 40 = .ok (.getfield 347, 3) := by decide +kernel
theorem dX11_takeTime_43 : decode cX11_takeTime 43 = .ok (.if_icmp .ge 9, 3) := by decide +kernel
theorem dX11_takeTime_46 : decode cX11_takeTime 46 = .ok (.aload_n 0, 1) := by decide +kernel
theorem dX11_takeTime_47 : decode cX11_takeTime 47 = .ok (.iconst 3, 1) := by decide +kernel
theorem dX11_takeTime_48 : decode cX11_takeTime 48 = .ok (.invokevirtual 307, 3) := by decide +kernel
theorem dX11_takeTime_51 : decode cX11_takeTime 51 = .ok (.ireturn, 1) := by decide +kernel
theorem dX11_takeTime_52 : decode cX11_takeTime 52 = .ok (.aload_n 0, 1) := by decide +kernel
theorem dX11_takeTime_53 : decode cX11_takeTime 53 = .ok (.getfield 247, 3) := by decide +kernel
theorem dX11_takeTime_56 : decode cX11_takeTime 56 = .ok (.aload_n 0, 1) := by decide +kernel
theorem dX11_takeTime_57 : decode cX11_takeTime 57 = .ok (.getfield 350, 3) := by decide +kernel
theorem dX11_takeTime_60 : decode cX11_takeTime 60 = .ok (.if_icmp .ge 10, 3) := by decide +kernel
theorem dX11_takeTime_63 : decode cX11_takeTime 63 = .ok (.aload_n 0, 1) := by decide +kernel
theorem dX11_takeTime_64 : decode cX11_takeTime 64 = .ok (.bipush 10, 2) := by decide +kernel
theorem dX11_takeTime_66 : decode cX11_takeTime 66 = .ok (.invokevirtual 307, 3) := by decide +kernel
theorem dX11_takeTime_69 : decode cX11_takeTime 69 = .ok (.ireturn, 1) := by decide +kernel
theorem dX11_takeTime_70 : decode cX11_takeTime 70 = .ok (.aload_n 0, 1) := by decide +kernel
theorem dX11_takeTime_71 : decode cX11_takeTime 71 = .ok (.getfield 238, 3) := by decide +kernel
theorem dX11_takeTime_74 : decode cX11_takeTime 74 = .ok (.aload_n 0, 1) := by decide +kernel
theorem dX11_takeTime_75 : decode cX11_takeTime 75 = .ok (.getfield 301, 3) := by decide +kernel
theorem dX11_takeTime_78 : decode cX11_takeTime 78 = .ok (.i2l, 1) := by decide +kernel
theorem dX11_takeTime_79 : decode cX11_takeTime 79 = .ok (.lcmp, 1) := by decide +kernel
theorem dX11_takeTime_80 : decode cX11_takeTime 80 = .ok (.ifCond .gt 9, 3) := by decide +kernel
theorem dX11_takeTime_83 : decode cX11_takeTime 83 = .ok (.aload_n 0, 1) := by decide +kernel
theorem dX11_takeTime_84 : decode cX11_takeTime 84 = .ok (.iconst 4, 1) := by decide +kernel
theorem dX11_takeTime_85 : decode cX11_takeTime 85 = .ok (.invokevirtual 307, 3) := by decide +kernel
theorem dX11_takeTime_88 : decode cX11_takeTime 88 = .ok (.ireturn, 1) := by decide +kernel
theorem dX11_takeTime_89 : decode cX11_takeTime 89 = .ok (.aload_n 0, 1) := by decide +kernel
theorem dX11_takeTime_90 : decode cX11_takeTime 90 = .ok (.iconst 1, 1) := by decide +kernel
theorem dX11_takeTime_91 : decode cX11_takeTime 91 = .ok (.invokevirtual 362, 3) := by decide +kernel
theorem dX11_takeTime_94 : decode cX11_takeTime 94 = .ok (.aload_n 0, 1) := by decide +kernel
theorem dX11_takeTime_95 : decode cX11_takeTime 95 = .ok (.getfield 124, 3) := by decide +kernel
theorem dX11_takeTime_98 : decode cX11_takeTime 98 = .ok (.ifCond .eq 8, 3) := by decide +kernel
theorem dX11_takeTime_101 : decode cX11_takeTime 101 = .ok (.bipush (-3), 2) := by decide +kernel
theorem dX11_takeTime_103 : decode cX11_takeTime 103 = .ok (.goto 7, 3) := by decide +kernel
theorem dX11_takeTime_106 : decode cX11_takeTime 106 = .ok (.aload_n 0, 1) := by decide +kernel
theorem dX11_takeTime_107 : decode cX11_takeTime 107 = .ok (.invokevirtual 365, 3) := by decide +kernel
theorem dX11_takeTime_110 : decode cX11_takeTime 110 = .ok (.ireturn, 1) := by decide +kernel
theorem dX11_goToList_0 : decode cX11_goToList 0 = .ok (.aload_n 0, 1) := by decide +kernel
theorem dX11_goToList_1 : decode cX11_goToList 1 = .ok (.iconst 1, 1) := by decide +kernel
theorem dX11_goToList_2 : decode cX11_goToList 2 = .ok (.invokevirtual 322, 3) := by decide +kernel
theorem dX11_goToList_5 : decode cX11_goToList 5 = .ok (.istore_n 1, 1) := by decide +kernel
theorem dX11_goToList_6 : decode cX11_goToList 6 = .ok (.aload_n 0, 1) := by decide +kernel
theorem dX11_goToList_7 : decode cX11_goToList 7 = .ok (.getfield 253, 3) := by decide +kernel
theorem dX11_goToList_10 : decode cX11_goToList 10 = .ok (.lstore_n 2, 1) := by decide +kernel
theorem dX11_goToList_11 : decode cX11_goToList 11 = .ok (.aload_n 0, 1) := by decide +kernel
theorem dX11_goToList_12 : decode cX11_goToList 12 = .ok (.iconst 3, 1) := by decide +kernel
theorem dX11_goToList_13 : decode cX11_goToList 13 = .ok (.putfield 134, 3) := by decide +kernel
theorem dX11_goToList_16 : decode cX11_goToList 16 = .ok (.aload_n 0, 1) := by decide +kernel
theorem dX11_goToList_17 : decode cX11_goToList 17 = .ok (.iconst 2, 1) := by decide +kernel
theorem dX11_goToList_18 : decode cX11_goToList 18 = .ok (.invokevirtual 322, 3) := by decide +kernel
theorem dX11_goToList_21 : decode cX11_goToList 21 = .ok (.ifCond .eq 12, 3) := by decide +kernel
theorem dX11_goToList_24 : decode cX11_goToList 24 = .ok (.aload_n 0, 1) := by decide +kernel
theorem dX11_goToList_25 : decode cX11_goToList 25 = .ok (.invokevirtual 262, 3) := by decide +kernel
theorem dX11_goToList_28 : decode cX11_goToList 28 = .ok (.lload_n 2, 1) := by decide +kernel
theorem dX11_goToList_29 : decode cX11_goToList 29 = .ok (.lcmp, 1) := by decide +kernel
theorem dX11_goToList_30 : decode cX11_goToList 30 = .ok (.ifCond .eq 5, 3) := by decide +kernel
theorem dX11_goToList_33 : decode cX11_goToList 33 = .ok (.iconst 3, 1) := by decide +kernel
theorem dX11_goToList_34 : decode cX11_goToList 34 = .ok (.ireturn, 1) := by decide +kernel
theorem dX11_goToList_35 : decode cX11_goToList 35 = .ok (.aload_n 0, 1) := by decide +kernel
theorem dX11_goToList_36 : decode cX11_goToList 36 = .ok (.invokevirtual 368, 3) := by decide +kernel
theorem dX11_goToList_39 : decode cX11_goToList 39 = .ok (.aload_n 0, 1) := by decide +kernel
theorem dX11_goToList_40 : decode cX11_goToList 40 = .ok (.invokevirtual 316, 3) := by decide +kernel
theorem dX11_goToList_43 : decode cX11_goToList 43 = .ok (.ireturn, 1) := by decide +kernel
theorem dX11_saveCame_0 : decode cX11_saveCame 0 = .ok (.aload_n 0, 1) := by decide +kernel
theorem dX11_saveCame_1 : decode cX11_saveCame 1 = .ok (.aload_n 0, 1) := by decide +kernel
theorem dX11_saveCame_2 : decode cX11_saveCame 2 = .ok (.getfield 217, 3) := by decide +kernel
theorem dX11_saveCame_5 : decode cX11_saveCame 5 = .ok (.putfield 295, 3) := by decide +kernel
theorem dX11_saveCame_8 : decode cX11_saveCame 8 = .ok (.iconst 0, 1) := by decide +kernel
theorem dX11_saveCame_9 : decode cX11_saveCame 9 = .ok (.istore_n 1, 1) := by decide +kernel
theorem dX11_saveCame_10 : decode cX11_saveCame 10 = .ok (.iload_n 1, 1) := by decide +kernel
theorem dX11_saveCame_11 : decode cX11_saveCame 11 = .ok (.aload_n 0, 1) := by decide +kernel
theorem dX11_saveCame_12 : decode cX11_saveCame 12 = .ok (.getfield 217, 3) := by decide +kernel
theorem dX11_saveCame_15 : decode cX11_saveCame 15 = .ok (.if_icmp .ge 21, 3) := by decide +kernel
theorem dX11_saveCame_18 : decode cX11_saveCame 18 = .ok (.aload_n 0, 1) := by decide +kernel
theorem dX11_saveCame_19 : decode cX11_saveCame 19 = .ok (.getfield 51, 3) := by decide +kernel
theorem dX11_saveCame_22 : decode cX11_saveCame 22 = .ok (.iload_n 1, 1) := by decide +kernel
theorem dX11_saveCame_23 : decode cX11_saveCame 23 = .ok (.aload_n 0, 1) := by decide +kernel
theorem dX11_saveCame_24 : decode cX11_saveCame 24 = .ok (.getfield 23, 3) := by decide +kernel
theorem dX11_saveCame_27 : decode cX11_saveCame 27 = .ok (.iload_n 1, 1) := by decide +kernel
theorem dX11_saveCame_28 : decode cX11_saveCame 28 = .ok (.iaload, 1) := by decide +kernel
theorem dX11_saveCame_29 : decode cX11_saveCame 29 = .ok (.iastore, 1) := by decide +kernel
theorem dX11_saveCame_30 : decode cX11_saveCame 30 = .ok (.iinc 1 1, 3) := by decide +kernel
theorem dX11_saveCame_33 : decode cX11_saveCame 33 = .ok (.goto (-23), 3) := by decide +kernel
theorem dX11_saveCame_36 : decode cX11_saveCame 36 = .ok (.return_, 1) := by decide +kernel
theorem dX11_takeList_0 : decode cX11_takeList 0 = .ok (.aload_n 0, 1) := by decide +kernel
theorem dX11_takeList_1 : decode cX11_takeList 1 = .ok (.iconst 1, 1) := by decide +kernel
theorem dX11_takeList_2 : decode cX11_takeList 2 = .ok (.invokevirtual 322, 3) := by decide +kernel
theorem dX11_takeList_5 : decode cX11_takeList 5 = .ok (.istore_n 1, 1) := by decide +kernel
theorem dX11_takeList_6 : decode cX11_takeList 6 = .ok (.aload_n 0, 1) := by decide +kernel
theorem dX11_takeList_7 : decode cX11_takeList 7 = .ok (.getfield 247, 3) := by decide +kernel
theorem dX11_takeList_10 : decode cX11_takeList 10 = .ok (.istore_n 2, 1) := by decide +kernel
theorem dX11_takeList_11 : decode cX11_takeList 11 = .ok (.aload_n 0, 1) := by decide +kernel
theorem dX11_takeList_12 : decode cX11_takeList 12 = .ok (.getfield 253, 3) := by decide +kernel
theorem dX11_takeList_15 : decode cX11_takeList 15 = .ok (.lstore_n 3, 1) := by decide +kernel
theorem dX11_takeList_16 : decode cX11_takeList 16 = .ok (.aload_n 0, 1) := by decide +kernel
theorem dX11_takeList_17 : decode cX11_takeList 17 = .ok (.iconst 2, 1) := by decide +kernel
theorem dX11_takeList_18 : decode cX11_takeList 18 = .ok (.invokevirtual 356, 3) := by decide +kernel
theorem dX11_takeList_21 : decode cX11_takeList 21 = .ok (.aload_n 0, 1) := by decide +kernel
theorem dX11_takeList_22 : decode cX11_takeList 22 = .ok (.iconst 2, 1) := by decide +kernel
theorem dX11_takeList_23 : decode cX11_takeList 23 = .ok (.invokevirtual 359, 3) := by decide +kernel
theorem dX11_takeList_26 : decode cX11_takeList 26 = .ok (.aload_n 0, 1) := by decide +kernel
theorem dX11_takeList_27 : decode cX11_takeList 27 = .ok (.invokevirtual 331, 3) := by decide +kernel
theorem dX11_takeList_30 : decode cX11_takeList 30 = .ok (.aload_n 0, 1) := by decide +kernel
theorem dX11_takeList_31 : decode cX11_takeList 31 = .ok (.invokevirtual 262, 3) := by decide +kernel
theorem dX11_takeList_34 : decode cX11_takeList 34 = .ok (.lload_n 3, 1) := by decide +kernel
theorem dX11_takeList_35 : decode cX11_takeList 35 = .ok (.lcmp, 1) := by decide +kernel
theorem dX11_takeList_36 : decode cX11_takeList 36 = .ok (.ifCond .eq 9, 3) := by decide +kernel
theorem dX11_takeList_39 : decode cX11_takeList 39 = .ok (.aload_n 0, 1) := by decide +kernel
theorem dX11_takeList_40 : decode cX11_takeList 40 = .ok (.iconst 5, 1) := by decide +kernel
theorem dX11_takeList_41 : decode cX11_takeList 41 = .ok (.invokevirtual 307, 3) := by decide +kernel
theorem dX11_takeList_44 : decode cX11_takeList 44 = .ok (.ireturn, 1) := by decide +kernel
theorem dX11_takeList_45 : decode cX11_takeList 45 = .ok (.aload_n 0, 1) := by decide +kernel
theorem dX11_takeList_46 : decode cX11_takeList 46 = .ok (.aload_n 0, 1) := by decide +kernel
theorem dX11_takeList_47 : decode cX11_takeList 47 = .ok (.getfield 325, 3) := by decide +kernel
theorem dX11_takeList_50 : decode cX11_takeList 50 = .ok (.aload_n 0, 1) := by decide +kernel
theorem dX11_takeList_51 : decode cX11_takeList 51 = .ok (.getfield 328, 3) := by decide +kernel
theorem dX11_takeList_54 : decode cX11_takeList 54 = .ok (.invokevirtual 334, 3) := by decide +kernel
theorem dX11_takeList_57 : decode cX11_takeList 57 = .ok (.ifCond .ne 9, 3) := by decide +kernel
theorem dX11_takeList_60 : decode cX11_takeList 60 = .ok (.aload_n 0, 1) := by decide +kernel
theorem dX11_takeList_61 : decode cX11_takeList 61 = .ok (.iconst 2, 1) := by decide +kernel
theorem dX11_takeList_62 : decode cX11_takeList 62 = .ok (.invokevirtual 307, 3) := by decide +kernel
theorem dX11_takeList_65 : decode cX11_takeList 65 = .ok (.ireturn, 1) := by decide +kernel
theorem dX11_takeList_66 : decode cX11_takeList 66 = .ok (.aload_n 0, 1) := by decide +kernel
theorem dX11_takeList_67 : decode cX11_takeList 67 = .ok (.getfield 235, 3) := by decide +kernel
theorem dX11_takeList_70 : decode cX11_takeList 70 = .ok (.iload_n 2, 1) := by decide +kernel
theorem dX11_takeList_71 : decode cX11_takeList 71 = .ok (.if_icmp .eq 9, 3) := by decide +kernel
theorem dX11_takeList_74 : decode cX11_takeList 74 = .ok (.aload_n 0, 1) := by decide +kernel
theorem dX11_takeList_75 : decode cX11_takeList 75 = .ok (.iconst 3, 1) := by decide +kernel
theorem dX11_takeList_76 : decode cX11_takeList 76 = .ok (.invokevirtual 307, 3) := by decide +kernel
theorem dX11_takeList_79 : decode cX11_takeList 79 = .ok (.ireturn, 1) := by decide +kernel
theorem dX11_takeList_80 : decode cX11_takeList 80 = .ok (.aload_n 0, 1) := by decide +kernel
theorem dX11_takeList_81 : decode cX11_takeList 81 = .ok (.getfield 247, 3) := by decide +kernel
theorem dX11_takeList_84 : decode cX11_takeList 84 = .ok (.aload_n 0, 1) := by decide +kernel
theorem dX11_takeList_85 : decode cX11_takeList 85 = .ok (.getfield 350, 3) := by decide +kernel
theorem dX11_takeList_88 : decode cX11_takeList 88 = .ok (.if_icmp .ge 10, 3) := by decide +kernel
theorem dX11_takeList_91 : decode cX11_takeList 91 = .ok (.aload_n 0, 1) := by decide +kernel
theorem dX11_takeList_92 : decode cX11_takeList 92 = .ok (.bipush 10, 2) := by decide +kernel
theorem dX11_takeList_94 : decode cX11_takeList 94 = .ok (.invokevirtual 307, 3) := by decide +kernel
theorem dX11_takeList_97 : decode cX11_takeList 97 = .ok (.ireturn, 1) := by decide +kernel
theorem dX11_takeList_98 : decode cX11_takeList 98 = .ok (.aload_n 0, 1) := by decide +kernel
theorem dX11_takeList_99 : decode cX11_takeList 99 = .ok (.getfield 238, 3) := by decide +kernel
theorem dX11_takeList_102 : decode cX11_takeList 102 = .ok (.aload_n 0, 1) := by decide +kernel
theorem dX11_takeList_103 : decode cX11_takeList 103 = .ok (.getfield 301, 3) := by decide +kernel
theorem dX11_takeList_106 : decode cX11_takeList 106 = .ok (.i2l, 1) := by decide +kernel
theorem dX11_takeList_107 : decode cX11_takeList 107 = .ok (.lcmp, 1) := by decide +kernel
theorem dX11_takeList_108 : decode cX11_takeList 108 = .ok (.ifCond .gt 9, 3) := by decide +kernel
theorem dX11_takeList_111 : decode cX11_takeList 111 = .ok (.aload_n 0, 1) := by decide +kernel
theorem dX11_takeList_112 : decode cX11_takeList 112 = .ok (.iconst 4, 1) := by decide +kernel
theorem dX11_takeList_113 : decode cX11_takeList 113 = .ok (.invokevirtual 307, 3) := by decide +kernel
theorem dX11_takeList_116 : decode cX11_takeList 116 = .ok (.ireturn, 1) := by decide +kernel
theorem dX11_takeList_117 : decode cX11_takeList 117 = .ok (.aload_n 0, 1) := by decide +kernel
theorem dX11_takeList_118 : decode cX11_takeList 118 = .ok (.iconst 2, 1) := by decide +kernel
theorem dX11_takeList_119 : decode cX11_takeList 119 = .ok (.invokevirtual 362, 3) := by decide +kernel
theorem dX11_takeList_122 : decode cX11_takeList 122 = .ok (.aload_n 0, 1) := by decide +kernel
theorem dX11_takeList_123 : decode cX11_takeList 123 = .ok (.getfield 124, 3) := by decide +kernel
theorem dX11_takeList_126 : decode cX11_takeList 126 = .ok (.ifCond .eq 8, 3) := by decide +kernel
theorem dX11_takeList_129 : decode cX11_takeList 129 = .ok (.bipush (-3), 2) := by decide +kernel
theorem dX11_takeList_131 : decode cX11_takeList 131 = .ok (.goto 7, 3) := by decide +kernel
theorem dX11_takeList_134 : decode cX11_takeList 134 = .ok (.aload_n 0, 1) := by decide +kernel
theorem dX11_takeList_135 : decode cX11_takeList 135 = .ok (.invokevirtual 371, 3) := by decide +kernel
theorem dX11_takeList_138 : decode cX11_takeList 138 = .ok (.ireturn, 1) := by decide +kernel
theorem dX11_goToImages_0 : decode cX11_goToImages 0 = .ok (.aload_n 0, 1) := by decide +kernel
theorem dX11_goToImages_1 : decode cX11_goToImages 1 = .ok (.iconst 2, 1) := by decide +kernel
theorem dX11_goToImages_2 : decode cX11_goToImages 2 = .ok (.invokevirtual 322, 3) := by decide +kernel
theorem dX11_goToImages_5 : decode cX11_goToImages 5 = .ok (.istore_n 1, 1) := by decide +kernel
theorem dX11_goToImages_6 : decode cX11_goToImages 6 = .ok (.aload_n 0, 1) := by decide +kernel
theorem dX11_goToImages_7 : decode cX11_goToImages 7 = .ok (.getfield 253, 3) := by decide +kernel
theorem dX11_goToImages_10 : decode cX11_goToImages 10 = .ok (.lstore_n 2, 1) := by decide +kernel
theorem dX11_goToImages_11 : decode cX11_goToImages 11 = .ok (.aload_n 0, 1) := by decide +kernel
theorem dX11_goToImages_12 : decode cX11_goToImages 12 = .ok (.iconst 4, 1) := by decide +kernel
theorem dX11_goToImages_13 : decode cX11_goToImages 13 = .ok (.putfield 134, 3) := by decide +kernel
theorem dX11_goToImages_16 : decode cX11_goToImages 16 = .ok (.aload_n 0, 1) := by decide +kernel
theorem dX11_goToImages_17 : decode cX11_goToImages 17 = .ok (.iconst 3, 1) := by decide +kernel
theorem dX11_goToImages_18 : decode cX11_goToImages 18 = .ok (.invokevirtual 322, 3) := by decide +kernel
theorem dX11_goToImages_21 : decode cX11_goToImages 21 = .ok (.ifCond .eq 12, 3) := by decide +kernel
theorem dX11_goToImages_24 : decode cX11_goToImages 24 = .ok (.aload_n 0, 1) := by decide +kernel
theorem dX11_goToImages_25 : decode cX11_goToImages 25 = .ok (.invokevirtual 262, 3) := by decide +kernel
theorem dX11_goToImages_28 : decode cX11_goToImages 28 = .ok (.lload_n 2, 1) := by decide +kernel
theorem dX11_goToImages_29 : decode cX11_goToImages 29 = .ok (.lcmp, 1) := by decide +kernel
theorem dX11_goToImages_30 : decode cX11_goToImages 30 = .ok (.ifCond .eq 5, 3) := by decide +kernel
theorem dX11_goToImages_33 : decode cX11_goToImages 33 = .ok (.iconst 4, 1) := by decide +kernel
theorem dX11_goToImages_34 : decode cX11_goToImages 34 = .ok (.ireturn, 1) := by decide +kernel
theorem dX11_goToImages_35 : decode cX11_goToImages 35 = .ok (.aload_n 0, 1) := by decide +kernel
theorem dX11_goToImages_36 : decode cX11_goToImages 36 = .ok (.invokevirtual 368, 3) := by decide +kernel
theorem dX11_goToImages_39 : decode cX11_goToImages 39 = .ok (.aload_n 0, 1) := by decide +kernel
theorem dX11_goToImages_40 : decode cX11_goToImages 40 = .ok (.invokevirtual 319, 3) := by decide +kernel
theorem dX11_goToImages_43 : decode cX11_goToImages 43 = .ok (.ireturn, 1) := by decide +kernel
theorem dX11_takeImages_0 : decode cX11_takeImages 0 = .ok (.aload_n 0, 1) := by decide +kernel
theorem dX11_takeImages_1 : decode cX11_takeImages 1 = .ok (.iconst 2, 1) := by decide +kernel
theorem dX11_takeImages_2 : decode cX11_takeImages 2 = .ok (.invokevirtual 322, 3) := by decide +kernel
theorem dX11_takeImages_5 : decode cX11_takeImages 5 = .ok (.istore_n 1, 1) := by decide +kernel
theorem dX11_takeImages_6 : decode cX11_takeImages 6 = .ok (.aload_n 0, 1) := by decide +kernel
theorem dX11_takeImages_7 : decode cX11_takeImages 7 = .ok (.getfield 247, 3) := by decide +kernel
theorem dX11_takeImages_10 : decode cX11_takeImages 10 = .ok (.istore_n 2, 1) := by decide +kernel
theorem dX11_takeImages_11 : decode cX11_takeImages 11 = .ok (.aload_n 0, 1) := by decide +kernel
theorem dX11_takeImages_12 : decode cX11_takeImages 12 = .ok (.getfield 253, 3) := by decide +kernel
theorem dX11_takeImages_15 : decode cX11_takeImages 15 = .ok (.lstore_n 3, 1) := by decide +kernel
theorem dX11_takeImages_16 : decode cX11_takeImages 16 = .ok (.aload_n 0, 1) := by decide +kernel
theorem dX11_takeImages_17 : decode cX11_takeImages 17 = .ok (.iconst 3, 1) := by decide +kernel
theorem dX11_takeImages_18 : decode cX11_takeImages 18 = .ok (.invokevirtual 356, 3) := by decide +kernel
theorem dX11_takeImages_21 : decode cX11_takeImages 21 = .ok (.aload_n 0, 1) := by decide +kernel
theorem dX11_takeImages_22 : decode cX11_takeImages 22 = .ok (.invokevirtual 331, 3) := by decide +kernel
theorem dX11_takeImages_25 : decode cX11_takeImages 25 = .ok (.aload_n 0, 1) := by decide +kernel
theorem dX11_takeImages_26 : decode cX11_takeImages 26 = .ok (.invokevirtual 262, 3) := by decide +kernel
theorem dX11_takeImages_29 : decode cX11_takeImages 29 = .ok (.lload_n 3, 1) := by decide +kernel
theorem dX11_takeImages_30 : decode cX11_takeImages 30 = .ok (.lcmp, 1) := by decide +kernel
theorem dX11_takeImages_31 : decode cX11_takeImages 31 = .ok (.ifCond .eq 9, 3) := by decide +kernel
theorem dX11_takeImages_34 : decode cX11_takeImages 34 = .ok (.aload_n 0, 1) := by decide +kernel
theorem dX11_takeImages_35 : decode cX11_takeImages 35 = .ok (.iconst 5, 1) := by decide +kernel
theorem dX11_takeImages_36 : decode cX11_takeImages 36 = .ok (.invokevirtual 307, 3) := by decide +kernel
theorem dX11_takeImages_39 : decode cX11_takeImages 39 = .ok (.ireturn, 1) := by decide +kernel
theorem dX11_takeImages_40 : decode cX11_takeImages 40 = .ok (.aload_n 0, 1) := by decide +kernel
theorem dX11_takeImages_41 : decode cX11_takeImages 41 = .ok (.aload_n 0, 1) := by decide +kernel
theorem dX11_takeImages_42 : decode cX11_takeImages 42 = .ok (.getfield 325, 3) := by decide +kernel
theorem dX11_takeImages_45 : decode cX11_takeImages 45 = .ok (.aload_n 0, 1) := by decide +kernel
theorem dX11_takeImages_46 : decode cX11_takeImages 46 = .ok (.getfield 328, 3) := by decide +kernel
theorem dX11_takeImages_49 : decode cX11_takeImages 49 = .ok (.invokevirtual 334, 3) := by decide +kernel
theorem dX11_takeImages_52 : decode cX11_takeImages 52 = .ok (.ifCond .ne 9, 3) := by decide +kernel
theorem dX11_takeImages_55 : decode cX11_takeImages 55 = .ok (.aload_n 0, 1) := by decide +kernel
theorem dX11_takeImages_56 : decode cX11_takeImages 56 = .ok (.iconst 2, 1) := by decide +kernel
theorem dX11_takeImages_57 : decode cX11_takeImages 57 = .ok (.invokevirtual 307, 3) := by decide +kernel
theorem dX11_takeImages_60 : decode cX11_takeImages 60 = .ok (.ireturn, 1) := by decide +kernel
theorem dX11_takeImages_61 : decode cX11_takeImages 61 = .ok (.aload_n 0, 1) := by decide +kernel
theorem dX11_takeImages_62 : decode cX11_takeImages 62 = .ok (.getfield 235, 3) := by decide +kernel
theorem dX11_takeImages_65 : decode cX11_takeImages 65 = .ok (.iload_n 2, 1) := by decide +kernel
theorem dX11_takeImages_66 : decode cX11_takeImages 66 = .ok (.if_icmp .eq 9, 3) := by decide +kernel
theorem dX11_takeImages_69 : decode cX11_takeImages 69 = .ok (.aload_n 0, 1) := by decide +kernel
theorem dX11_takeImages_70 : decode cX11_takeImages 70 = .ok (.iconst 3, 1) := by decide +kernel
theorem dX11_takeImages_71 : decode cX11_takeImages 71 = .ok (.invokevirtual 307, 3) := by decide +kernel
theorem dX11_takeImages_74 : decode cX11_takeImages 74 = .ok (.ireturn, 1) := by decide +kernel
theorem dX11_takeImages_75 : decode cX11_takeImages 75 = .ok (.aload_n 0, 1) := by decide +kernel
theorem dX11_takeImages_76 : decode cX11_takeImages 76 = .ok (.getfield 238, 3) := by decide +kernel
theorem dX11_takeImages_79 : decode cX11_takeImages 79 = .ok (.aload_n 0, 1) := by decide +kernel
theorem dX11_takeImages_80 : decode cX11_takeImages 80 = .ok (.getfield 301, 3) := by decide +kernel
theorem dX11_takeImages_83 : decode cX11_takeImages 83 = .ok (.i2l, 1) := by decide +kernel
theorem dX11_takeImages_84 : decode cX11_takeImages 84 = .ok (.lcmp, 1) := by decide +kernel
theorem dX11_takeImages_85 : decode cX11_takeImages 85 = .ok (.ifCond .gt 9, 3) := by decide +kernel
theorem dX11_takeImages_88 : decode cX11_takeImages 88 = .ok (.aload_n 0, 1) := by decide +kernel
theorem dX11_takeImages_89 : decode cX11_takeImages 89 = .ok (.iconst 4, 1) := by decide +kernel
theorem dX11_takeImages_90 : decode cX11_takeImages 90 = .ok (.invokevirtual 307, 3) := by decide +kernel
theorem dX11_takeImages_93 : decode cX11_takeImages 93 = .ok (.ireturn, 1) := by decide +kernel
theorem dX11_takeImages_94 : decode cX11_takeImages 94 = .ok (.aload_n 0, 1) := by decide +kernel
theorem dX11_takeImages_95 : decode cX11_takeImages 95 = .ok (.iconst 3, 1) := by decide +kernel
theorem dX11_takeImages_96 : decode cX11_takeImages 96 = .ok (.invokevirtual 362, 3) := by decide +kernel
theorem dX11_takeImages_99 : decode cX11_takeImages 99 = .ok (.aload_n 0, 1) := by decide +kernel
theorem dX11_takeImages_100 : decode cX11_takeImages 100 = .ok (.getfield 124, 3) := by decide +kernel
theorem dX11_takeImages_103 : decode cX11_takeImages 103 = .ok (.ifCond .eq 8, 3) := by decide +kernel
theorem dX11_takeImages_106 : decode cX11_takeImages 106 = .ok (.bipush (-3), 2) := by decide +kernel
theorem dX11_takeImages_108 : decode cX11_takeImages 108 = .ok (.goto 7, 3) := by decide +kernel
theorem dX11_takeImages_111 : decode cX11_takeImages 111 = .ok (.aload_n 0, 1) := by decide +kernel
theorem dX11_takeImages_112 : decode cX11_takeImages 112 = .ok (.invokevirtual 374, 3) := by decide +kernel
theorem dX11_takeImages_115 : decode cX11_takeImages 115 = .ok (.ireturn, 1) := by decide +kernel
theorem dX11_goToPieces_0 : decode cX11_goToPieces 0 = .ok (.aload_n 0, 1) := by decide +kernel
theorem dX11_goToPieces_1 : decode cX11_goToPieces 1 = .ok (.iconst 3, 1) := by decide +kernel
theorem dX11_goToPieces_2 : decode cX11_goToPieces 2 = .ok (.invokevirtual 322, 3) := by decide +kernel
theorem dX11_goToPieces_5 : decode cX11_goToPieces 5 = .ok (.istore_n 1, 1) := by decide +kernel
theorem dX11_goToPieces_6 : decode cX11_goToPieces 6 = .ok (.aload_n 0, 1) := by decide +kernel
theorem dX11_goToPieces_7 : decode cX11_goToPieces 7 = .ok (.invokevirtual 99, 3) := by decide +kernel
theorem dX11_goToPieces_10 : decode cX11_goToPieces 10 = .ok (.aload_n 0, 1) := by decide +kernel
theorem dX11_goToPieces_11 : decode cX11_goToPieces 11 = .ok (.getfield 256, 3) := by decide +kernel
theorem dX11_goToPieces_14 : decode cX11_goToPieces 14 = .ok (.ifCond .eq 21, 3) := by decide +kernel
theorem dX11_goToPieces_17 : decode cX11_goToPieces 17 = .ok (.aload_n 0, 1) := by decide +kernel
theorem dX11_goToPieces_18 : decode cX11_goToPieces 18 = .ok (.getfield 32, 3) := by decide +kernel
theorem dX11_goToPieces_21 : decode cX11_goToPieces 21 = .ok (.aload_n 0, 1) := by decide +kernel
theorem dX11_goToPieces_22 : decode cX11_goToPieces 22 = .ok (.getfield 256, 3) := by decide +kernel
theorem dX11_goToPieces_25 : decode cX11_goToPieces 25 = .ok (.iconst 1, 1) := by decide +kernel
theorem dX11_goToPieces_26 : decode cX11_goToPieces 26 = .ok (.isub, 1) := by decide +kernel
theorem dX11_goToPieces_27 : decode cX11_goToPieces 27 = .ok (.iaload, 1) := by decide +kernel
theorem dX11_goToPieces_28 : decode cX11_goToPieces 28 = .ok (.aload_n 0, 1) := by decide +kernel
theorem dX11_goToPieces_29 : decode cX11_goToPieces 29 = .ok (.getfield 171, 3) := by decide +kernel
theorem dX11_goToPieces_32 : decode cX11_goToPieces 32 = .ok (.if_icmp .gt 10, 3) := by decide +kernel
theorem dX11_goToPieces_35 : decode cX11_goToPieces 35 = .ok (.aload_n 0, 1) := by decide +kernel
theorem dX11_goToPieces_36 : decode cX11_goToPieces 36 = .ok (.bipush 9, 2) := by decide +kernel
theorem dX11_goToPieces_38 : decode cX11_goToPieces 38 = .ok (.invokevirtual 307, 3) := by decide +kernel
theorem dX11_goToPieces_41 : decode cX11_goToPieces 41 = .ok (.ireturn, 1) := by decide +kernel
theorem dX11_goToPieces_42 : decode cX11_goToPieces 42 = .ok (.aload_n 0, 1) := by decide +kernel
theorem dX11_goToPieces_43 : decode cX11_goToPieces 43 = .ok (.aload_n 0, 1) := by decide +kernel
theorem dX11_goToPieces_44 : decode cX11_goToPieces 44 = .ok (.getfield 32, 3) := by decide +kernel
theorem dX11_goToPieces_47 : decode cX11_goToPieces 47 = .ok (.aload_n 0, 1) := by decide +kernel
theorem dX11_goToPieces_48 : decode cX11_goToPieces 48 = .ok (.getfield 256, 3) := by decide +kernel
theorem dX11_goToPieces_51 : decode cX11_goToPieces 51 = .ok (.iconst 1, 1) := by decide +kernel
theorem dX11_goToPieces_52 : decode cX11_goToPieces 52 = .ok (.isub, 1) := by decide +kernel
theorem dX11_goToPieces_53 : decode cX11_goToPieces 53 = .ok (.iaload, 1) := by decide +kernel
theorem dX11_goToPieces_54 : decode cX11_goToPieces 54 = .ok (.putfield 377, 3) := by decide +kernel
theorem dX11_goToPieces_57 : decode cX11_goToPieces 57 = .ok (.aload_n 0, 1) := by decide +kernel
theorem dX11_goToPieces_58 : decode cX11_goToPieces 58 = .ok (.aload_n 0, 1) := by decide +kernel
theorem dX11_goToPieces_59 : decode cX11_goToPieces 59 = .ok (.getfield 35, 3) := by decide +kernel
theorem dX11_goToPieces_62 : decode cX11_goToPieces 62 = .ok (.aload_n 0, 1) := by decide +kernel
theorem dX11_goToPieces_63 : decode cX11_goToPieces 63 = .ok (.getfield 256, 3) := by decide +kernel
theorem dX11_goToPieces_66 : decode cX11_goToPieces 66 = .ok (.iconst 1, 1) := by decide +kernel
theorem dX11_goToPieces_67 : decode cX11_goToPieces 67 = .ok (.isub, 1) := by decide +kernel
theorem dX11_goToPieces_68 : decode cX11_goToPieces 68 = .ok (.iaload, 1) := by decide +kernel
theorem dX11_goToPieces_69 : decode cX11_goToPieces 69 = .ok (.putfield 380, 3) := by decide +kernel
theorem dX11_goToPieces_72 : decode cX11_goToPieces 72 = .ok (.aload_n 0, 1) := by decide +kernel
theorem dX11_goToPieces_73 : decode cX11_goToPieces 73 = .ok (.aload_n 0, 1) := by decide +kernel
theorem dX11_goToPieces_74 : decode cX11_goToPieces 74 = .ok (.getfield 38, 3) := by decide +kernel
theorem dX11_goToPieces_77 : decode cX11_goToPieces 77 = .ok (.aload_n 0, 1) := by decide +kernel
theorem dX11_goToPieces_78 : decode cX11_goToPieces 78 = .ok (.getfield 256, 3) := by decide +kernel
theorem dX11_goToPieces_81 : decode cX11_goToPieces 81 = .ok (.iconst 1, 1) := by decide +kernel
theorem dX11_goToPieces_82 : decode cX11_goToPieces 82 = .ok (.isub, 1) := by decide +kernel
theorem dX11_goToPieces_83 : decode cX11_goToPieces 83 = .ok (.laload, 1) := by decide +kernel
theorem dX11_goToPieces_84 : decode cX11_goToPieces 84 = .ok (.ldc2_w 119, 3) := by decide +kernel
theorem dX11_goToPieces_87 : decode cX11_goToPieces 87 = .ok (.land, 1) := by decide +kernel
theorem dX11_goToPieces_88 : decode cX11_goToPieces 88 = .ok (.putfield 383, 3) := by decide +kernel
theorem dX11_goToPieces_91 : decode cX11_goToPieces 91 = .ok (.aload_n 0, 1) := by decide +kernel
theorem dX11_goToPieces_92 : decode cX11_goToPieces 92 = .ok (.getfield 183, 3) := by decide +kernel
theorem dX11_goToPieces_95 : decode cX11_goToPieces 95 = .ok (.aload_n 0, 1) := by decide +kernel
theorem dX11_goToPieces_96 : decode cX11_goToPieces 96 = .ok (.getfield 377, 3) := by decide +kernel
theorem dX11_goToPieces_99 : decode cX11_goToPieces 99 = .ok (.if_icmp .ne 30, 3) := by decide +kernel
theorem dX11_goToPieces_102 : decode cX11_goToPieces 102 = .ok (.aload_n 0, 1) := by decide +kernel
theorem dX11_goToPieces_103 : decode cX11_goToPieces 103 = .ok (.getfield 186, 3) := by decide +kernel
theorem dX11_goToPieces_106 : decode cX11_goToPieces 106 = .ok (.aload_n 0, 1) := by decide +kernel
theorem dX11_goToPieces_107 : decode cX11_goToPieces 107 = .ok (.getfield 380, 3) := by decide +kernel
theorem dX11_goToPieces_110 : decode cX11_goToPieces 110 = .ok (.if_icmp .ne 19, 3) := by decide +kernel
theorem dX11_goToPieces_113 : decode cX11_goToPieces 113 = .ok (.aload_n 0, 1) := by decide +kernel
theorem dX11_goToPieces_114 : decode cX11_goToPieces 114 = .ok (.getfield 189, 3) := by decide +kernel
theorem dX11_goToPieces_117 : decode cX11_goToPieces 117 = .ok (.aload_n 0, 1) := by decide +kernel
theorem dX11_goToPieces_118 : decode cX11_goToPieces 118 = .ok (.getfield 383, 3) := by decide +kernel
theorem dX11_goToPieces_121 : decode cX11_goToPieces 121 = .ok (.lcmp, 1) := by decide +kernel
theorem dX11_goToPieces_122 : decode cX11_goToPieces 122 = .ok (.ifCond .ne 7, 3) := by decide +kernel
theorem dX11_goToPieces_125 : decode cX11_goToPieces 125 = .ok (.iconst 1, 1) := by decide +kernel
theorem dX11_goToPieces_126 : decode cX11_goToPieces 126 = .ok (.goto 4, 3) := by decide +kernel
theorem dX11_goToPieces_129 : decode cX11_goToPieces 129 = .ok (.iconst 0, 1) := by decide +kernel
theorem dX11_goToPieces_130 : decode cX11_goToPieces 130 = .ok (.istore_n 2, 1) := by decide +kernel
theorem dX11_goToPieces_131 : decode cX11_goToPieces 131 = .ok (.iload_n 2, 1) := by decide +kernel
theorem dX11_goToPieces_132 : decode cX11_goToPieces 132 = .ok (.ifCond .eq 18, 3) := by decide +kernel
theorem dX11_goToPieces_135 : decode cX11_goToPieces 135 = .ok (.aload_n 0, 1) := by decide +kernel
theorem dX11_goToPieces_136 : decode cX11_goToPieces 136 = .ok (.getfield 180, 3) := by decide +kernel
theorem dX11_goToPieces_139 : decode cX11_goToPieces 139 = .ok (.iconst 2, 1) := by decide +kernel
theorem dX11_goToPieces_140 : decode cX11_goToPieces 140 = .ok (.if_icmp .ne 10, 3) := by decide +kernel
theorem dX11_goToPieces_143 : decode cX11_goToPieces 143 = .ok (.aload_n 0, 1) := by decide +kernel
theorem dX11_goToPieces_144 : decode cX11_goToPieces 144 = .ok (.iconst 0, 1) := by decide +kernel
theorem dX11_goToPieces_145 : decode cX11_goToPieces 145 = .ok (.putfield 134, 3) := by decide +kernel
theorem dX11_goToPieces_148 : decode cX11_goToPieces 148 = .ok (.iconst 0, 1) := by decide +kernel
theorem dX11_goToPieces_149 : decode cX11_goToPieces 149 = .ok (.ireturn, 1) := by decide +kernel
theorem dX11_goToPieces_150 : decode cX11_goToPieces 150 = .ok (.iload_n 2, 1) := by decide +kernel
theorem dX11_goToPieces_151 : decode cX11_goToPieces 151 = .ok (.ifCond .eq 76, 3) := by decide +kernel
theorem dX11_goToPieces_154 : decode cX11_goToPieces 154 = .ok (.aload_n 0, 1) := by decide +kernel
theorem dX11_goToPieces_155 : decode cX11_goToPieces 155 = .ok (.getfield 180, 3) := by decide +kernel
theorem dX11_goToPieces_158 : decode cX11_goToPieces 158 = .ok (.iconst 1, 1) := by decide +kernel
theorem dX11_goToPieces_159 : decode cX11_goToPieces 159 = .ok (.if_icmp .ne 68, 3) := by decide +kernel
theorem dX11_goToPieces_162 : decode cX11_goToPieces 162 = .ok (.aload_n 0, 1) := by decide +kernel
theorem dX11_goToPieces_163 : decode cX11_goToPieces 163 = .ok (.iconst 0, 1) := by decide +kernel
theorem dX11_goToPieces_164 : decode cX11_goToPieces 164 = .ok (.putfield 386, 3) := by decide +kernel
theorem dX11_goToPieces_167 : decode cX11_goToPieces 167 = .ok (.iconst 0, 1) := by decide +kernel
theorem dX11_goToPieces_168 : decode cX11_goToPieces 168 = .ok (.istore_n 3, 1) := by decide +kernel
theorem dX11_goToPieces_169 : decode cX11_goToPieces 169 = .ok (.iload_n 3, 1) := by decide +kernel
theorem dX11_goToPieces_170 : decode cX11_goToPieces 170 = .ok (.aload_n 0, 1) := by decide +kernel
theorem dX11_goToPieces_171 : decode cX11_goToPieces 171 = .ok (.getfield 380, 3) := by decide +kernel
theorem dX11_goToPieces_174 : decode cX11_goToPieces 174 = .ok (.if_icmp .ge 46, 3) := by decide +kernel
theorem dX11_goToPieces_177 : decode cX11_goToPieces 177 = .ok (.aload_n 0, 1) := by decide +kernel
theorem dX11_goToPieces_178 : decode cX11_goToPieces 178 = .ok (.aload_n 0, 1) := by decide +kernel
theorem dX11_goToPieces_179 : decode cX11_goToPieces 179 = .ok (.getfield 7, 3) := by decide +kernel
theorem dX11_goToPieces_182 : decode cX11_goToPieces 182 = .ok (.iconst 1, 1) := by decide +kernel
theorem dX11_goToPieces_183 : decode cX11_goToPieces 183 = .ok (.aload_n 0, 1) := by decide +kernel
theorem dX11_goToPieces_184 : decode cX11_goToPieces 184 = .ok (.getfield 168, 3) := by decide +kernel
theorem dX11_goToPieces_187 : decode cX11_goToPieces 187 = .ok (.isub, 1) := by decide +kernel
theorem dX11_goToPieces_188 : decode cX11_goToPieces 188 = .ok (.invokestatic 84, 3) := by decide +kernel
theorem dX11_goToPieces_191 : decode cX11_goToPieces 191 = .ok (.iload_n 3, 1) := by decide +kernel
theorem dX11_goToPieces_192 : decode cX11_goToPieces 192 = .ok (.iadd, 1) := by decide +kernel
theorem dX11_goToPieces_193 : decode cX11_goToPieces 193 = .ok (.iaload, 1) := by decide +kernel
theorem dX11_goToPieces_194 : decode cX11_goToPieces 194 = .ok (.sipush 255, 3) := by decide +kernel
theorem dX11_goToPieces_197 : decode cX11_goToPieces 197 = .ok (.if_icmp .eq 10, 3) := by decide +kernel
theorem dX11_goToPieces_200 : decode cX11_goToPieces 200 = .ok (.iload_n 3, 1) := by decide +kernel
theorem dX11_goToPieces_201 : decode cX11_goToPieces 201 = .ok (.bipush 64, 2) := by decide +kernel
theorem dX11_goToPieces_203 : decode cX11_goToPieces 203 = .ok (.idiv, 1) := by decide +kernel
theorem dX11_goToPieces_204 : decode cX11_goToPieces 204 = .ok (.goto 7, 3) := by decide +kernel
theorem dX11_goToPieces_207 : decode cX11_goToPieces 207 = .ok (.aload_n 0, 1) := by decide +kernel
theorem dX11_goToPieces_208 : decode cX11_goToPieces 208 = .ok (.getfield 386, 3) := by decide +kernel
theorem dX11_goToPieces_211 : decode cX11_goToPieces 211 = .ok (.putfield 386, 3) := by decide +kernel
theorem dX11_goToPieces_214 : decode cX11_goToPieces 214 = .ok (.iinc 3 1, 3) := by decide +kernel
theorem dX11_goToPieces_217 : decode cX11_goToPieces 217 = .ok (.goto (-48), 3) := by decide +kernel
theorem dX11_goToPieces_220 : decode cX11_goToPieces 220 = .ok (.aload_n 0, 1) := by decide +kernel
theorem dX11_goToPieces_221 : decode cX11_goToPieces 221 = .ok (.iconst 5, 1) := by decide +kernel
theorem dX11_goToPieces_222 : decode cX11_goToPieces 222 = .ok (.putfield 134, 3) := by decide +kernel
theorem dX11_goToPieces_225 : decode cX11_goToPieces 225 = .ok (.iconst 5, 1) := by decide +kernel
theorem dX11_goToPieces_226 : decode cX11_goToPieces 226 = .ok (.ireturn, 1) := by decide +kernel
theorem dX11_goToPieces_227 : decode cX11_goToPieces 227 = .ok (.iconst 0, 1) := by decide +kernel
theorem dX11_goToPieces_228 : decode cX11_goToPieces 228 = .ok (.istore_n 3, 1) := by decide +kernel
theorem dX11_goToPieces_229 : decode cX11_goToPieces 229 = .ok (.iload_n 3, 1) := by decide +kernel
theorem dX11_goToPieces_230 : decode cX11_goToPieces 230 = .ok (.bipush 8, 2) := by decide +kernel
theorem dX11_goToPieces_232 : decode cX11_goToPieces 232 = .ok (.if_icmp .ge 28, 3) := by decide +kernel
theorem dX11_goToPieces_235 : decode cX11_goToPieces 235 = .ok (.aload_n 0, 1) := by decide +kernel
theorem dX11_goToPieces_236 : decode cX11_goToPieces 236 = .ok (.iconst 1, 1) := by decide +kernel
theorem dX11_goToPieces_237 : decode cX11_goToPieces 237 = .ok (.aload_n 0, 1) := by decide +kernel
theorem dX11_goToPieces_238 : decode cX11_goToPieces 238 = .ok (.getfield 168, 3) := by decide +kernel
theorem dX11_goToPieces_241 : decode cX11_goToPieces 241 = .ok (.isub, 1) := by decide +kernel
theorem dX11_goToPieces_242 : decode cX11_goToPieces 242 = .ok (.invokestatic 84, 3) := by decide +kernel
theorem dX11_goToPieces_245 : decode cX11_goToPieces 245 = .ok (.sipush 128, 3) := by decide +kernel
theorem dX11_goToPieces_248 : decode cX11_goToPieces 248 = .ok (.idiv, 1) := by decide +kernel
theorem dX11_goToPieces_249 : decode cX11_goToPieces 249 = .ok (.iload_n 3, 1) := by decide +kernel
theorem dX11_goToPieces_250 : decode cX11_goToPieces 250 = .ok (.iadd, 1) := by decide +kernel
theorem dX11_goToPieces_251 : decode cX11_goToPieces 251 = .ok (.invokevirtual 206, 3) := by decide +kernel
theorem dX11_goToPieces_254 : decode cX11_goToPieces 254 = .ok (.iinc 3 1, 3) := by decide +kernel
theorem dX11_goToPieces_257 : decode cX11_goToPieces 257 = .ok (.goto (-28), 3) := by decide +kernel
theorem dX11_goToPieces_260 : decode cX11_goToPieces 260 = .ok (.aload_n 0, 1) := by decide +kernel
theorem dX11_goToPieces_261 : decode cX11_goToPieces 261 = .ok (.getfield 124, 3) := by decide +kernel
theorem dX11_goToPieces_264 : decode cX11_goToPieces 264 = .ok (.ifCond .ne 32, 3) := by decide +kernel
theorem dX11_goToPieces_267 : decode cX11_goToPieces 267 = .ok (.aload_n 0, 1) := by decide +kernel
theorem dX11_goToPieces_268 : decode cX11_goToPieces 268 = .ok (.aload_n 0, 1) := by decide +kernel
theorem dX11_goToPieces_269 : decode cX11_goToPieces 269 = .ok (.getfield 377, 3) := by decide +kernel
theorem dX11_goToPieces_272 : decode cX11_goToPieces 272 = .ok (.putfield 183, 3) := by decide +kernel
theorem dX11_goToPieces_275 : decode cX11_goToPieces 275 = .ok (.aload_n 0, 1) := by decide +kernel
theorem dX11_goToPieces_276 : decode cX11_goToPieces 276 = .ok (.aload_n 0, 1) := by decide +kernel
theorem dX11_goToPieces_277 : decode cX11_goToPieces 277 = .ok (.getfield 380, 3) := by decide +kernel
theorem dX11_goToPieces_280 : decode cX11_goToPieces 280 = .ok (.putfield 186, 3) := by decide +kernel
theorem dX11_goToPieces_283 : decode cX11_goToPieces 283 = .ok (.aload_n 0, 1) := by decide +kernel
theorem dX11_goToPieces_284 : decode cX11_goToPieces 284 = .ok (.aload_n 0, 1) := by decide +kernel
theorem dX11_goToPieces_285 : decode cX11_goToPieces 285 = .ok (.getfield 383, 3) := by decide +kernel
theorem dX11_goToPieces_288 : decode cX11_goToPieces 288 = .ok (.putfield 189, 3) := by decide +kernel
theorem dX11_goToPieces_291 : decode cX11_goToPieces 291 = .ok (.aload_n 0, 1) := by decide +kernel
theorem dX11_goToPieces_292 : decode cX11_goToPieces 292 = .ok (.iconst 1, 1) := by decide +kernel
theorem dX11_goToPieces_293 : decode cX11_goToPieces 293 = .ok (.invokevirtual 389, 3) := by decide +kernel
theorem dX11_goToPieces_296 : decode cX11_goToPieces 296 = .ok (.aload_n 0, 1) := by decide +kernel
theorem dX11_goToPieces_297 : decode cX11_goToPieces 297 = .ok (.getfield 124, 3) := by decide +kernel
theorem dX11_goToPieces_300 : decode cX11_goToPieces 300 = .ok (.ifCond .eq 6, 3) := by decide +kernel
theorem dX11_goToPieces_303 : decode cX11_goToPieces 303 = .ok (.bipush (-3), 2) := by decide +kernel
theorem dX11_goToPieces_305 : decode cX11_goToPieces 305 = .ok (.ireturn, 1) := by decide +kernel
theorem dX11_goToPieces_306 : decode cX11_goToPieces 306 = .ok (.aload_n 0, 1) := by decide +kernel
theorem dX11_goToPieces_307 : decode cX11_goToPieces 307 = .ok (.iconst 0, 1) := by decide +kernel
theorem dX11_goToPieces_308 : decode cX11_goToPieces 308 = .ok (.putfield 386, 3) := by decide +kernel
theorem dX11_goToPieces_311 : decode cX11_goToPieces 311 = .ok (.aload_n 0, 1) := by decide +kernel
theorem dX11_goToPieces_312 : decode cX11_goToPieces 312 = .ok (.iconst 5, 1) := by decide +kernel
theorem dX11_goToPieces_313 : decode cX11_goToPieces 313 = .ok (.putfield 134, 3) := by decide +kernel
theorem dX11_goToPieces_316 : decode cX11_goToPieces 316 = .ok (.iconst 5, 1) := by decide +kernel
theorem dX11_goToPieces_317 : decode cX11_goToPieces 317 = .ok (.ireturn, 1) := by decide +kernel
theorem dX11_takePiece_0 : decode cX11_takePiece 0 = .ok (.aload_n 0, 1) := by decide +kernel
theorem dX11_takePiece_1 : decode cX11_takePiece 1 = .ok (.getfield 380, 3) := by decide +kernel
theorem dX11_takePiece_4 : decode cX11_takePiece 4 = .ok (.bipush 64, 2) := by decide +kernel
theorem dX11_takePiece_6 : decode cX11_takePiece 6 = .ok (.aload_n 0, 1) := by decide +kernel
theorem dX11_takePiece_7 : decode cX11_takePiece 7 = .ok (.getfield 386, 3) := by decide +kernel
theorem dX11_takePiece_10 : decode cX11_takePiece 10 = .ok (.imul, 1) := by decide +kernel
theorem dX11_takePiece_11 : decode cX11_takePiece 11 = .ok (.isub, 1) := by decide +kernel
theorem dX11_takePiece_12 : decode cX11_takePiece 12 = .ok (.istore_n 2, 1) := by decide +kernel
theorem dX11_takePiece_13 : decode cX11_takePiece 13 = .ok (.iload_n 1, 1) := by decide +kernel
theorem dX11_takePiece_14 : decode cX11_takePiece 14 = .ok (.iload_n 2, 1) := by decide +kernel
theorem dX11_takePiece_15 : decode cX11_takePiece 15 = .ok (.bipush 64, 2) := by decide +kernel
theorem dX11_takePiece_17 : decode cX11_takePiece 17 = .ok (.if_icmp .ge 7, 3) := by decide +kernel
theorem dX11_takePiece_20 : decode cX11_takePiece 20 = .ok (.iload_n 2, 1) := by decide +kernel
theorem dX11_takePiece_21 : decode cX11_takePiece 21 = .ok (.goto 5, 3) := by decide +kernel
theorem dX11_takePiece_24 : decode cX11_takePiece 24 = .ok (.bipush 64, 2) := by decide +kernel
theorem dX11_takePiece_26 : decode cX11_takePiece 26 = .ok (.if_icmp .eq 10, 3) := by decide +kernel
theorem dX11_takePiece_29 : decode cX11_takePiece 29 = .ok (.aload_n 0, 1) := by decide +kernel
theorem dX11_takePiece_30 : decode cX11_takePiece 30 = .ok (.bipush 7, 2) := by decide +kernel
theorem dX11_takePiece_32 : decode cX11_takePiece 32 = .ok (.invokevirtual 307, 3) := by decide +kernel
theorem dX11_takePiece_35 : decode cX11_takePiece 35 = .ok (.ireturn, 1) := by decide +kernel
theorem dX11_takePiece_36 : decode cX11_takePiece 36 = .ok (.aload_n 0, 1) := by decide +kernel
theorem dX11_takePiece_37 : decode cX11_takePiece 37 = .ok (.invokevirtual 99, 3) := by decide +kernel
theorem dX11_takePiece_40 : decode cX11_takePiece 40 = .ok (.iconst 1, 1) := by decide +kernel
theorem dX11_takePiece_41 : decode cX11_takePiece 41 = .ok (.aload_n 0, 1) := by decide +kernel
theorem dX11_takePiece_42 : decode cX11_takePiece 42 = .ok (.getfield 168, 3) := by decide +kernel
theorem dX11_takePiece_45 : decode cX11_takePiece 45 = .ok (.isub, 1) := by decide +kernel
theorem dX11_takePiece_46 : decode cX11_takePiece 46 = .ok (.invokestatic 84, 3) := by decide +kernel
theorem dX11_takePiece_49 : decode cX11_takePiece 49 = .ok (.bipush 64, 2) := by decide +kernel
theorem dX11_takePiece_51 : decode cX11_takePiece 51 = .ok (.aload_n 0, 1) := by decide +kernel
theorem dX11_takePiece_52 : decode cX11_takePiece 52 = .ok (.getfield 386, 3) := by decide +kernel
theorem dX11_takePiece_55 : decode cX11_takePiece 55 = .ok (.imul, 1) := by decide +kernel
theorem dX11_takePiece_56 : decode cX11_takePiece 56 = .ok (.iadd, 1) := by decide +kernel
theorem dX11_takePiece_57 : decode cX11_takePiece 57 = .ok (.istore_n 3, 1) := by decide +kernel
theorem dX11_takePiece_58 : decode cX11_takePiece 58 = .ok (.iconst 0, 1) := by decide +kernel
theorem dX11_takePiece_59 : decode cX11_takePiece 59 = .ok (.istore 4, 2) := by decide +kernel
theorem dX11_takePiece_61 : decode cX11_takePiece 61 = .ok (.iload 4, 2) := by decide +kernel
theorem dX11_takePiece_63 : decode cX11_takePiece 63 = .ok (.iload_n 1, 1) := by decide +kernel
theorem dX11_takePiece_64 : decode cX11_takePiece 64 = .ok (.if_icmp .ge 65, 3) := by decide +kernel
theorem dX11_takePiece_67 : decode cX11_takePiece 67 = .ok (.iconst 0, 1) := by decide +kernel
theorem dX11_takePiece_68 : decode cX11_takePiece 68 = .ok (.istore 5, 2) := by decide +kernel
theorem dX11_takePiece_70 : decode cX11_takePiece 70 = .ok (.iload 5, 2) := by decide +kernel
theorem dX11_takePiece_72 : decode cX11_takePiece 72 = .ok (.bipush 32, 2) := by decide +kernel
theorem dX11_takePiece_74 : decode cX11_takePiece 74 = .ok (.if_icmp .ge 41, 3) := by decide +kernel
theorem dX11_takePiece_77 : decode cX11_takePiece 77 = .ok (.aload_n 0, 1) := by decide +kernel
theorem dX11_takePiece_78 : decode cX11_takePiece 78 = .ok (.getfield 20, 3) := by decide +kernel
theorem dX11_takePiece_81 : decode cX11_takePiece 81 = .ok (.iload 5, 2) := by decide +kernel
theorem dX11_takePiece_83 : decode cX11_takePiece 83 = .ok (.iload 4, 2) := by decide +kernel
theorem dX11_takePiece_85 : decode cX11_takePiece 85 = .ok (.iload 5, 2) := by decide +kernel
theorem dX11_takePiece_87 : decode cX11_takePiece 87 = .ok (.iadd, 1) := by decide +kernel
theorem dX11_takePiece_88 : decode cX11_takePiece 88 = .ok (.iload_n 1, 1) := by decide +kernel
theorem dX11_takePiece_89 : decode cX11_takePiece 89 = .ok (.if_icmp .ge 16, 3) := by decide +kernel
theorem dX11_takePiece_92 : decode cX11_takePiece 92 = .ok (.aload_n 0, 1) := by decide +kernel
theorem dX11_takePiece_93 : decode cX11_takePiece 93 = .ok (.getfield 17, 3) := by decide +kernel
theorem dX11_takePiece_96 : decode cX11_takePiece 96 = .ok (.iload 4, 2) := by decide +kernel
theorem dX11_takePiece_98 : decode cX11_takePiece 98 = .ok (.iload 5, 2) := by decide +kernel
theorem dX11_takePiece_100 : decode cX11_takePiece 100 = .ok (.iadd, 1) := by decide +kernel
theorem dX11_takePiece_101 : decode cX11_takePiece 101 = .ok (.iaload, 1) := by decide +kernel
theorem dX11_takePiece_102 : decode cX11_takePiece 102 = .ok (.goto 6, 3) := by decide +kernel
theorem dX11_takePiece_105 : decode cX11_takePiece 105 = .ok (.sipush 255, 3) := by decide +kernel
theorem dX11_takePiece_108 : decode cX11_takePiece 108 = .ok (.iastore, 1) := by decide +kernel
theorem dX11_takePiece_109 : decode cX11_takePiece 109 = .ok (.iinc 5 1, 3) := by decide +kernel
theorem dX11_takePiece_112 : decode cX11_takePiece 112 = .ok (.goto (-42), 3) := by decide +kernel
theorem dX11_takePiece_115 : decode cX11_takePiece 115 = .ok (.aload_n 0, 1) := by decide +kernel
theorem dX11_takePiece_116 : decode cX11_takePiece 116 = .ok (.iload_n 3, 1) := by decide +kernel
theorem dX11_takePiece_117 : decode cX11_takePiece 117 = .ok (.iload 4, 2) := by decide +kernel
theorem dX11_takePiece_119 : decode cX11_takePiece 119 = .ok (.iadd, 1) := by decide +kernel
theorem dX11_takePiece_120 : decode cX11_takePiece 120 = .ok (.invokevirtual 209, 3) := by decide +kernel
theorem dX11_takePiece_123 : decode cX11_takePiece 123 = .ok (.iinc 4 32, 3) := by decide +kernel
theorem dX11_takePiece_126 : decode cX11_takePiece 126 = .ok (.goto (-65), 3) := by decide +kernel
theorem dX11_takePiece_129 : decode cX11_takePiece 129 = .ok (.aload_n 0, 1) := by decide +kernel
theorem dX11_takePiece_130 : decode cX11_takePiece 130 = .ok (.getfield 124, 3) := by decide +kernel
theorem dX11_takePiece_133 : decode cX11_takePiece 133 = .ok (.ifCond .eq 6, 3) := by decide +kernel
theorem dX11_takePiece_136 : decode cX11_takePiece 136 = .ok (.bipush (-3), 2) := by decide +kernel
theorem dX11_takePiece_138 : decode cX11_takePiece 138 = .ok (.ireturn, 1) := by decide +kernel
theorem dX11_takePiece_139 : decode cX11_takePiece 139 = .ok (.iload_n 2, 1) := by decide +kernel
theorem dX11_takePiece_140 : decode cX11_takePiece 140 = .ok (.bipush 64, 2) := by decide +kernel
theorem dX11_takePiece_142 : decode cX11_takePiece 142 = .ok (.if_icmp .le 15, 3) := by decide +kernel
theorem dX11_takePiece_145 : decode cX11_takePiece 145 = .ok (.aload_n 0, 1) := by decide +kernel
theorem dX11_takePiece_146 : decode cX11_takePiece 146 = .ok (.dup, 1) := by decide +kernel
theorem dX11_takePiece_147 : decode cX11_takePiece 147 = .ok (.getfield 386, 3) := by decide +kernel
theorem dX11_takePiece_150 : decode cX11_takePiece 150 = .ok (.iconst 1, 1) := by decide +kernel
theorem dX11_takePiece_151 : decode cX11_takePiece 151 = .ok (.iadd, 1) := by decide +kernel
theorem dX11_takePiece_152 : decode cX11_takePiece 152 = .ok (.putfield 386, 3) := by decide +kernel
theorem dX11_takePiece_155 : decode cX11_takePiece 155 = .ok (.iconst 5, 1) := by decide +kernel
theorem dX11_takePiece_156 : decode cX11_takePiece 156 = .ok (.ireturn, 1) := by decide +kernel
theorem dX11_takePiece_157 : decode cX11_takePiece 157 = .ok (.aload_n 0, 1) := by decide +kernel
theorem dX11_takePiece_158 : decode cX11_takePiece 158 = .ok (.iconst 1, 1) := by decide +kernel
theorem dX11_takePiece_159 : decode cX11_takePiece 159 = .ok (.aload_n 0, 1) := by decide +kernel
theorem dX11_takePiece_160 : decode cX11_takePiece 160 = .ok (.getfield 168, 3) := by decide +kernel
theorem dX11_takePiece_163 : decode cX11_takePiece 163 = .ok (.isub, 1) := by decide +kernel
theorem dX11_takePiece_164 : decode cX11_takePiece 164 = .ok (.aload_n 0, 1) := by decide +kernel
theorem dX11_takePiece_165 : decode cX11_takePiece 165 = .ok (.getfield 380, 3) := by decide +kernel
theorem dX11_takePiece_168 : decode cX11_takePiece 168 = .ok (.invokevirtual 88, 3) := by decide +kernel
theorem dX11_takePiece_171 : decode cX11_takePiece 171 = .ok (.aload_n 0, 1) := by decide +kernel
theorem dX11_takePiece_172 : decode cX11_takePiece 172 = .ok (.getfield 383, 3) := by decide +kernel
theorem dX11_takePiece_175 : decode cX11_takePiece 175 = .ok (.lcmp, 1) := by decide +kernel
theorem dX11_takePiece_176 : decode cX11_takePiece 176 = .ok (.ifCond .ne 7, 3) := by decide +kernel
theorem dX11_takePiece_179 : decode cX11_takePiece 179 = .ok (.iconst 1, 1) := by decide +kernel
theorem dX11_takePiece_180 : decode cX11_takePiece 180 = .ok (.goto 4, 3) := by decide +kernel
theorem dX11_takePiece_183 : decode cX11_takePiece 183 = .ok (.iconst 0, 1) := by decide +kernel
theorem dX11_takePiece_184 : decode cX11_takePiece 184 = .ok (.istore 4, 2) := by decide +kernel
theorem dX11_takePiece_186 : decode cX11_takePiece 186 = .ok (.aload_n 0, 1) := by decide +kernel
theorem dX11_takePiece_187 : decode cX11_takePiece 187 = .ok (.iload 4, 2) := by decide +kernel
theorem dX11_takePiece_189 : decode cX11_takePiece 189 = .ok (.ifCond .eq 7, 3) := by decide +kernel
theorem dX11_takePiece_192 : decode cX11_takePiece 192 = .ok (.iconst 2, 1) := by decide +kernel
theorem dX11_takePiece_193 : decode cX11_takePiece 193 = .ok (.goto 4, 3) := by decide +kernel
theorem dX11_takePiece_196 : decode cX11_takePiece 196 = .ok (.iconst 0, 1) := by decide +kernel
theorem dX11_takePiece_197 : decode cX11_takePiece 197 = .ok (.invokevirtual 389, 3) := by decide +kernel
theorem dX11_takePiece_200 : decode cX11_takePiece 200 = .ok (.aload_n 0, 1) := by decide +kernel
theorem dX11_takePiece_201 : decode cX11_takePiece 201 = .ok (.getfield 124, 3) := by decide +kernel
theorem dX11_takePiece_204 : decode cX11_takePiece 204 = .ok (.ifCond .eq 6, 3) := by decide +kernel
theorem dX11_takePiece_207 : decode cX11_takePiece 207 = .ok (.bipush (-3), 2) := by decide +kernel
theorem dX11_takePiece_209 : decode cX11_takePiece 209 = .ok (.ireturn, 1) := by decide +kernel
theorem dX11_takePiece_210 : decode cX11_takePiece 210 = .ok (.aload_n 0, 1) := by decide +kernel
theorem dX11_takePiece_211 : decode cX11_takePiece 211 = .ok (.iconst 0, 1) := by decide +kernel
theorem dX11_takePiece_212 : decode cX11_takePiece 212 = .ok (.putfield 134, 3) := by decide +kernel
theorem dX11_takePiece_215 : decode cX11_takePiece 215 = .ok (.iload 4, 2) := by decide +kernel
theorem dX11_takePiece_217 : decode cX11_takePiece 217 = .ok (.ifCond .eq 7, 3) := by decide +kernel
theorem dX11_takePiece_220 : decode cX11_takePiece 220 = .ok (.iconst 0, 1) := by decide +kernel
theorem dX11_takePiece_221 : decode cX11_takePiece 221 = .ok (.goto 9, 3) := by decide +kernel
theorem dX11_takePiece_224 : decode cX11_takePiece 224 = .ok (.aload_n 0, 1) := by decide +kernel
theorem dX11_takePiece_225 : decode cX11_takePiece 225 = .ok (.bipush 8, 2) := by decide +kernel
theorem dX11_takePiece_227 : decode cX11_takePiece 227 = .ok (.invokevirtual 307, 3) := by decide +kernel
theorem dX11_takePiece_230 : decode cX11_takePiece 230 = .ok (.ireturn, 1) := by decide +kernel
theorem dX11_awaits_0 : decode cX11_awaits 0 = .ok (.iload_n 1, 1) := by decide +kernel
theorem dX11_awaits_1 : decode cX11_awaits 1 = .ok (.ifCond .lt 8, 3) := by decide +kernel
theorem dX11_awaits_4 : decode cX11_awaits 4 = .ok (.iload_n 1, 1) := by decide +kernel
theorem dX11_awaits_5 : decode cX11_awaits 5 = .ok (.iconst 2, 1) := by decide +kernel
theorem dX11_awaits_6 : decode cX11_awaits 6 = .ok (.if_icmp .le 5, 3) := by decide +kernel
theorem dX11_awaits_9 : decode cX11_awaits 9 = .ok (.iconst (-1), 1) := by decide +kernel
theorem dX11_awaits_10 : decode cX11_awaits 10 = .ok (.ireturn, 1) := by decide +kernel
theorem dX11_awaits_11 : decode cX11_awaits 11 = .ok (.iload_n 1, 1) := by decide +kernel
theorem dX11_awaits_12 : decode cX11_awaits 12 = .ok (.ifCond .ne 8, 3) := by decide +kernel
theorem dX11_awaits_15 : decode cX11_awaits 15 = .ok (.aload_n 0, 1) := by decide +kernel
theorem dX11_awaits_16 : decode cX11_awaits 16 = .ok (.getfield 134, 3) := by decide +kernel
theorem dX11_awaits_19 : decode cX11_awaits 19 = .ok (.ireturn, 1) := by decide +kernel
theorem dX11_awaits_20 : decode cX11_awaits 20 = .ok (.iload_n 1, 1) := by decide +kernel
theorem dX11_awaits_21 : decode cX11_awaits 21 = .ok (.iconst 2, 1) := by decide +kernel
theorem dX11_awaits_22 : decode cX11_awaits 22 = .ok (.if_icmp .ne 20, 3) := by decide +kernel
theorem dX11_awaits_25 : decode cX11_awaits 25 = .ok (.aload_n 0, 1) := by decide +kernel
theorem dX11_awaits_26 : decode cX11_awaits 26 = .ok (.getfield 134, 3) := by decide +kernel
theorem dX11_awaits_29 : decode cX11_awaits 29 = .ok (.iconst 5, 1) := by decide +kernel
theorem dX11_awaits_30 : decode cX11_awaits 30 = .ok (.if_icmp .ne 10, 3) := by decide +kernel
theorem dX11_awaits_33 : decode cX11_awaits 33 = .ok (.aload_n 0, 1) := by decide +kernel
theorem dX11_awaits_34 : decode cX11_awaits 34 = .ok (.getfield 386, 3) := by decide +kernel
theorem dX11_awaits_37 : decode cX11_awaits 37 = .ok (.goto 4, 3) := by decide +kernel
theorem dX11_awaits_40 : decode cX11_awaits 40 = .ok (.iconst 0, 1) := by decide +kernel
theorem dX11_awaits_41 : decode cX11_awaits 41 = .ok (.ireturn, 1) := by decide +kernel
theorem dX11_awaits_42 : decode cX11_awaits 42 = .ok (.aload_n 0, 1) := by decide +kernel
theorem dX11_awaits_43 : decode cX11_awaits 43 = .ok (.getfield 134, 3) := by decide +kernel
theorem dX11_awaits_46 : decode cX11_awaits 46 = .ok (.iconst 1, 1) := by decide +kernel
theorem dX11_awaits_47 : decode cX11_awaits 47 = .ok (.if_icmp .ne 16, 3) := by decide +kernel
theorem dX11_awaits_50 : decode cX11_awaits 50 = .ok (.aload_n 0, 1) := by decide +kernel
theorem dX11_awaits_51 : decode cX11_awaits 51 = .ok (.iconst 0, 1) := by decide +kernel
theorem dX11_awaits_52 : decode cX11_awaits 52 = .ok (.invokevirtual 322, 3) := by decide +kernel
theorem dX11_awaits_55 : decode cX11_awaits 55 = .ok (.istore_n 2, 1) := by decide +kernel
theorem dX11_awaits_56 : decode cX11_awaits 56 = .ok (.aload_n 0, 1) := by decide +kernel
theorem dX11_awaits_57 : decode cX11_awaits 57 = .ok (.getfield 235, 3) := by decide +kernel
theorem dX11_awaits_60 : decode cX11_awaits 60 = .ok (.iconst 1, 1) := by decide +kernel
