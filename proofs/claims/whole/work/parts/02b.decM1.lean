theorem dX11_isErased_11 : decode cX11_isErased 11 = .ok (.ifCond .eq 21, 3) := by decide +kernel
theorem dX11_isErased_14 : decode cX11_isErased 14 = .ok (.aload_n 0, 1) := by decide +kernel
theorem dX11_isErased_15 : decode cX11_isErased 15 = .ok (.getfield 7, 3) := by decide +kernel
theorem dX11_isErased_18 : decode cX11_isErased 18 = .ok (.iload_n 1, 1) := by decide +kernel
theorem dX11_isErased_19 : decode cX11_isErased 19 = .ok (.iload_n 3, 1) := by decide +kernel
theorem dX11_isErased_20 : decode cX11_isErased 20 = .ok (.iadd, 1) := by decide +kernel
theorem dX11_isErased_21 : decode cX11_isErased 21 = .ok (.iaload, 1) := by decide +kernel
theorem dX11_isErased_22 : decode cX11_isErased 22 = .ok (.sipush 255, 3) := by decide +kernel
theorem dX11_isErased_25 : decode cX11_isErased 25 = .ok (.if_icmp .ne 7, 3) := by decide +kernel
theorem dX11_isErased_28 : decode cX11_isErased 28 = .ok (.iconst 1, 1) := by decide +kernel
theorem dX11_isErased_29 : decode cX11_isErased 29 = .ok (.goto 4, 3) := by decide +kernel
theorem dX11_isErased_32 : decode cX11_isErased 32 = .ok (.iconst 0, 1) := by decide +kernel
theorem dX11_isErased_33 : decode cX11_isErased 33 = .ok (.istore_n 2, 1) := by decide +kernel
theorem dX11_isErased_34 : decode cX11_isErased 34 = .ok (.iinc 3 1, 3) := by decide +kernel
theorem dX11_isErased_37 : decode cX11_isErased 37 = .ok (.goto (-33), 3) := by decide +kernel
theorem dX11_isErased_40 : decode cX11_isErased 40 = .ok (.iload_n 2, 1) := by decide +kernel
theorem dX11_isErased_41 : decode cX11_isErased 41 = .ok (.ireturn, 1) := by decide +kernel
theorem dX11_writeState_0 : decode cX11_writeState 0 = .ok (.aload_n 0, 1) := by decide +kernel
theorem dX11_writeState_1 : decode cX11_writeState 1 = .ok (.getfield 161, 3) := by decide +kernel
theorem dX11_writeState_4 : decode cX11_writeState 4 = .ok (.bipush (-2), 2) := by decide +kernel
theorem dX11_writeState_6 : decode cX11_writeState 6 = .ok (.if_icmp .ne 8, 3) := by decide +kernel
theorem dX11_writeState_9 : decode cX11_writeState 9 = .ok (.bipush 8, 2) := by decide +kernel
theorem dX11_writeState_11 : decode cX11_writeState 11 = .ok (.goto 11, 3) := by decide +kernel
theorem dX11_writeState_14 : decode cX11_writeState 14 = .ok (.aload_n 0, 1) := by decide +kernel
theorem dX11_writeState_15 : decode cX11_writeState 15 = .ok (.getfield 161, 3) := by decide +kernel
theorem dX11_writeState_18 : decode cX11_writeState 18 = .ok (.sipush 128, 3) := by decide +kernel
theorem dX11_writeState_21 : decode cX11_writeState 21 = .ok (.idiv, 1) := by decide +kernel
theorem dX11_writeState_22 : decode cX11_writeState 22 = .ok (.istore_n 2, 1) := by decide +kernel
theorem dX11_writeState_23 : decode cX11_writeState 23 = .ok (.aload_n 0, 1) := by decide +kernel
theorem dX11_writeState_24 : decode cX11_writeState 24 = .ok (.getfield 161, 3) := by decide +kernel
theorem dX11_writeState_27 : decode cX11_writeState 27 = .ok (.bipush (-2), 2) := by decide +kernel
theorem dX11_writeState_29 : decode cX11_writeState 29 = .ok (.if_icmp .ne 7, 3) := by decide +kernel
theorem dX11_writeState_32 : decode cX11_writeState 32 = .ok (.iconst 0, 1) := by decide +kernel
theorem dX11_writeState_33 : decode cX11_writeState 33 = .ok (.goto 16, 3) := by decide +kernel
theorem dX11_writeState_36 : decode cX11_writeState 36 = .ok (.aload_n 0, 1) := by decide +kernel
theorem dX11_writeState_37 : decode cX11_writeState 37 = .ok (.getfield 161, 3) := by decide +kernel
theorem dX11_writeState_40 : decode cX11_writeState 40 = .ok (.sipush 128, 3) := by decide +kernel
theorem dX11_writeState_43 : decode cX11_writeState 43 = .ok (.irem, 1) := by decide +kernel
theorem dX11_writeState_44 : decode cX11_writeState 44 = .ok (.bipush 32, 2) := by decide +kernel
theorem dX11_writeState_46 : decode cX11_writeState 46 = .ok (.idiv, 1) := by decide +kernel
theorem dX11_writeState_47 : decode cX11_writeState 47 = .ok (.iconst 1, 1) := by decide +kernel
theorem dX11_writeState_48 : decode cX11_writeState 48 = .ok (.iadd, 1) := by decide +kernel
theorem dX11_writeState_49 : decode cX11_writeState 49 = .ok (.istore_n 3, 1) := by decide +kernel
theorem dX11_writeState_50 : decode cX11_writeState 50 = .ok (.bipush (-2), 2) := by decide +kernel
theorem dX11_writeState_52 : decode cX11_writeState 52 = .ok (.istore 4, 2) := by decide +kernel
theorem dX11_writeState_54 : decode cX11_writeState 54 = .ok (.iload_n 3, 1) := by decide +kernel
theorem dX11_writeState_55 : decode cX11_writeState 55 = .ok (.istore 5, 2) := by decide +kernel
theorem dX11_writeState_57 : decode cX11_writeState 57 = .ok (.iload 5, 2) := by decide +kernel
theorem dX11_writeState_59 : decode cX11_writeState 59 = .ok (.iconst 4, 1) := by decide +kernel
theorem dX11_writeState_60 : decode cX11_writeState 60 = .ok (.if_icmp .ge 47, 3) := by decide +kernel
theorem dX11_writeState_63 : decode cX11_writeState 63 = .ok (.iload 4, 2) := by decide +kernel
theorem dX11_writeState_65 : decode cX11_writeState 65 = .ok (.bipush (-2), 2) := by decide +kernel
theorem dX11_writeState_67 : decode cX11_writeState 67 = .ok (.if_icmp .ne 40, 3) := by decide +kernel
theorem dX11_writeState_70 : decode cX11_writeState 70 = .ok (.sipush 128, 3) := by decide +kernel
theorem dX11_writeState_73 : decode cX11_writeState 73 = .ok (.iload_n 2, 1) := by decide +kernel
theorem dX11_writeState_74 : decode cX11_writeState 74 = .ok (.imul, 1) := by decide +kernel
theorem dX11_writeState_75 : decode cX11_writeState 75 = .ok (.bipush 32, 2) := by decide +kernel
theorem dX11_writeState_77 : decode cX11_writeState 77 = .ok (.iload 5, 2) := by decide +kernel
theorem dX11_writeState_79 : decode cX11_writeState 79 = .ok (.imul, 1) := by decide +kernel
theorem dX11_writeState_80 : decode cX11_writeState 80 = .ok (.iadd, 1) := by decide +kernel
theorem dX11_writeState_81 : decode cX11_writeState 81 = .ok (.istore 6, 2) := by decide +kernel
theorem dX11_writeState_83 : decode cX11_writeState 83 = .ok (.aload_n 0, 1) := by decide +kernel
theorem dX11_writeState_84 : decode cX11_writeState 84 = .ok (.iload 6, 2) := by decide +kernel
theorem dX11_writeState_86 : decode cX11_writeState 86 = .ok (.invokevirtual 203, 3) := by decide +kernel
theorem dX11_writeState_89 : decode cX11_writeState 89 = .ok (.ifCond .eq 8, 3) := by decide +kernel
theorem dX11_writeState_92 : decode cX11_writeState 92 = .ok (.iload 6, 2) := by decide +kernel
theorem dX11_writeState_94 : decode cX11_writeState 94 = .ok (.goto 5, 3) := by decide +kernel
theorem dX11_writeState_97 : decode cX11_writeState 97 = .ok (.bipush (-2), 2) := by decide +kernel
theorem dX11_writeState_99 : decode cX11_writeState 99 = .ok (.istore 4, 2) := by decide +kernel
theorem dX11_writeState_101 : decode cX11_writeState 101 = .ok (.iinc 5 1, 3) := by decide +kernel
theorem dX11_writeState_104 : decode cX11_writeState 104 = .ok (.goto (-47), 3) := by decide +kernel
theorem dX11_writeState_107 : decode cX11_writeState 107 = .ok (.iload 4, 2) := by decide +kernel
theorem dX11_writeState_109 : decode cX11_writeState 109 = .ok (.bipush (-2), 2) := by decide +kernel
theorem dX11_writeState_111 : decode cX11_writeState 111 = .ok (.if_icmp .ne 21, 3) := by decide +kernel
theorem dX11_writeState_114 : decode cX11_writeState 114 = .ok (.aload_n 0, 1) := by decide +kernel
theorem dX11_writeState_115 : decode cX11_writeState 115 = .ok (.bipush 17, 2) := by decide +kernel
theorem dX11_writeState_117 : decode cX11_writeState 117 = .ok (.iload_n 2, 1) := by decide +kernel
theorem dX11_writeState_118 : decode cX11_writeState 118 = .ok (.isub, 1) := by decide +kernel
theorem dX11_writeState_119 : decode cX11_writeState 119 = .ok (.invokevirtual 206, 3) := by decide +kernel
theorem dX11_writeState_122 : decode cX11_writeState 122 = .ok (.sipush 128, 3) := by decide +kernel
theorem dX11_writeState_125 : decode cX11_writeState 125 = .ok (.bipush 17, 2) := by decide +kernel
theorem dX11_writeState_127 : decode cX11_writeState 127 = .ok (.iload_n 2, 1) := by decide +kernel
theorem dX11_writeState_128 : decode cX11_writeState 128 = .ok (.isub, 1) := by decide +kernel
theorem dX11_writeState_129 : decode cX11_writeState 129 = .ok (.imul, 1) := by decide +kernel
theorem dX11_writeState_130 : decode cX11_writeState 130 = .ok (.istore 4, 2) := by decide +kernel
theorem dX11_writeState_132 : decode cX11_writeState 132 = .ok (.aload_n 0, 1) := by decide +kernel
theorem dX11_writeState_133 : decode cX11_writeState 133 = .ok (.iload_n 1, 1) := by decide +kernel
theorem dX11_writeState_134 : decode cX11_writeState 134 = .ok (.invokevirtual 102, 3) := by decide +kernel
theorem dX11_writeState_137 : decode cX11_writeState 137 = .ok (.aload_n 0, 1) := by decide +kernel
theorem dX11_writeState_138 : decode cX11_writeState 138 = .ok (.iload 4, 2) := by decide +kernel
theorem dX11_writeState_140 : decode cX11_writeState 140 = .ok (.invokevirtual 209, 3) := by decide +kernel
theorem dX11_writeState_143 : decode cX11_writeState 143 = .ok (.aload_n 0, 1) := by decide +kernel
theorem dX11_writeState_144 : decode cX11_writeState 144 = .ok (.invokevirtual 99, 3) := by decide +kernel
theorem dX11_writeState_147 : decode cX11_writeState 147 = .ok (.return_, 1) := by decide +kernel
theorem dX11_docWide_0 : decode cX11_docWide 0 = .ok (.iconst 0, 1) := by decide +kernel
theorem dX11_docWide_1 : decode cX11_docWide 1 = .ok (.istore_n 3, 1) := by decide +kernel
theorem dX11_docWide_2 : decode cX11_docWide 2 = .ok (.iconst 0, 1) := by decide +kernel
theorem dX11_docWide_3 : decode cX11_docWide 3 = .ok (.istore 4, 2) := by decide +kernel
theorem dX11_docWide_5 : decode cX11_docWide 5 = .ok (.iload 4, 2) := by decide +kernel
theorem dX11_docWide_7 : decode cX11_docWide 7 = .ok (.iload_n 2, 1) := by decide +kernel
theorem dX11_docWide_8 : decode cX11_docWide 8 = .ok (.if_icmp .ge 24, 3) := by decide +kernel
theorem dX11_docWide_11 : decode cX11_docWide 11 = .ok (.iload_n 3, 1) := by decide +kernel
theorem dX11_docWide_12 : decode cX11_docWide 12 = .ok (.bipush 8, 2) := by decide +kernel
theorem dX11_docWide_14 : decode cX11_docWide 14 = .ok (.ishl, 1) := by decide +kernel
theorem dX11_docWide_15 : decode cX11_docWide 15 = .ok (.aload_n 0, 1) := by decide +kernel
theorem dX11_docWide_16 : decode cX11_docWide 16 = .ok (.getfield 23, 3) := by decide +kernel
theorem dX11_docWide_19 : decode cX11_docWide 19 = .ok (.iload_n 1, 1) := by decide +kernel
theorem dX11_docWide_20 : decode cX11_docWide 20 = .ok (.iload 4, 2) := by decide +kernel
theorem dX11_docWide_22 : decode cX11_docWide 22 = .ok (.iadd, 1) := by decide +kernel
theorem dX11_docWide_23 : decode cX11_docWide 23 = .ok (.iaload, 1) := by decide +kernel
theorem dX11_docWide_24 : decode cX11_docWide 24 = .ok (.ior, 1) := by decide +kernel
theorem dX11_docWide_25 : decode cX11_docWide 25 = .ok (.istore_n 3, 1) := by decide +kernel
theorem dX11_docWide_26 : decode cX11_docWide 26 = .ok (.iinc 4 1, 3) := by decide +kernel
theorem dX11_docWide_29 : decode cX11_docWide 29 = .ok (.goto (-24), 3) := by decide +kernel
theorem dX11_docWide_32 : decode cX11_docWide 32 = .ok (.iload_n 3, 1) := by decide +kernel
theorem dX11_docWide_33 : decode cX11_docWide 33 = .ok (.ireturn, 1) := by decide +kernel
theorem dX11_docLong_0 : decode cX11_docLong 0 = .ok (.aload_n 0, 1) := by decide +kernel
theorem dX11_docLong_1 : decode cX11_docLong 1 = .ok (.iload_n 1, 1) := by decide +kernel
theorem dX11_docLong_2 : decode cX11_docLong 2 = .ok (.iconst 4, 1) := by decide +kernel
theorem dX11_docLong_3 : decode cX11_docLong 3 = .ok (.invokevirtual 212, 3) := by decide +kernel
theorem dX11_docLong_6 : decode cX11_docLong 6 = .ok (.i2l, 1) := by decide +kernel
theorem dX11_docLong_7 : decode cX11_docLong 7 = .ok (.bipush 32, 2) := by decide +kernel
theorem dX11_docLong_9 : decode cX11_docLong 9 = .ok (.lshl, 1) := by decide +kernel
theorem dX11_docLong_10 : decode cX11_docLong 10 = .ok (.aload_n 0, 1) := by decide +kernel
theorem dX11_docLong_11 : decode cX11_docLong 11 = .ok (.iload_n 1, 1) := by decide +kernel
theorem dX11_docLong_12 : decode cX11_docLong 12 = .ok (.iconst 4, 1) := by decide +kernel
theorem dX11_docLong_13 : decode cX11_docLong 13 = .ok (.iadd, 1) := by decide +kernel
theorem dX11_docLong_14 : decode cX11_docLong 14 = .ok (.iconst 4, 1) := by decide +kernel
theorem dX11_docLong_15 : decode cX11_docLong 15 = .ok (.invokevirtual 212, 3) := by decide +kernel
theorem dX11_docLong_18 : decode cX11_docLong 18 = .ok (.i2l, 1) := by decide +kernel
theorem dX11_docLong_19 : decode cX11_docLong 19 = .ok (.ldc2_w 215, 3) := by decide +kernel
theorem dX11_docLong_22 : decode cX11_docLong 22 = .ok (.land, 1) := by decide +kernel
theorem dX11_docLong_23 : decode cX11_docLong 23 = .ok (.lor, 1) := by decide +kernel
theorem dX11_docLong_24 : decode cX11_docLong 24 = .ok (.lreturn, 1) := by decide +kernel
theorem dX11_keysAt_0 : decode cX11_keysAt 0 = .ok (.iconst 0, 1) := by decide +kernel
theorem dX11_keysAt_1 : decode cX11_keysAt 1 = .ok (.istore_n 3, 1) := by decide +kernel
theorem dX11_keysAt_2 : decode cX11_keysAt 2 = .ok (.iconst (-1), 1) := by decide +kernel
theorem dX11_keysAt_3 : decode cX11_keysAt 3 = .ok (.istore 4, 2) := by decide +kernel
theorem dX11_keysAt_5 : decode cX11_keysAt 5 = .ok (.iconst 0, 1) := by decide +kernel
theorem dX11_keysAt_6 : decode cX11_keysAt 6 = .ok (.istore 5, 2) := by decide +kernel
theorem dX11_keysAt_8 : decode cX11_keysAt 8 = .ok (.iload 5, 2) := by decide +kernel
theorem dX11_keysAt_10 : decode cX11_keysAt 10 = .ok (.iload_n 2, 1) := by decide +kernel
theorem dX11_keysAt_11 : decode cX11_keysAt 11 = .ok (.if_icmp .ge 47, 3) := by decide +kernel
theorem dX11_keysAt_14 : decode cX11_keysAt 14 = .ok (.aload_n 0, 1) := by decide +kernel
theorem dX11_keysAt_15 : decode cX11_keysAt 15 = .ok (.getfield 23, 3) := by decide +kernel
theorem dX11_keysAt_18 : decode cX11_keysAt 18 = .ok (.iload_n 1, 1) := by decide +kernel
theorem dX11_keysAt_19 : decode cX11_keysAt 19 = .ok (.iload 5, 2) := by decide +kernel
theorem dX11_keysAt_21 : decode cX11_keysAt 21 = .ok (.iadd, 1) := by decide +kernel
theorem dX11_keysAt_22 : decode cX11_keysAt 22 = .ok (.iaload, 1) := by decide +kernel
theorem dX11_keysAt_23 : decode cX11_keysAt 23 = .ok (.istore 6, 2) := by decide +kernel
theorem dX11_keysAt_25 : decode cX11_keysAt 25 = .ok (.iload 6, 2) := by decide +kernel
theorem dX11_keysAt_27 : decode cX11_keysAt 27 = .ok (.iload 4, 2) := by decide +kernel
theorem dX11_keysAt_29 : decode cX11_keysAt 29 = .ok (.if_icmp .le 10, 3) := by decide +kernel
theorem dX11_keysAt_32 : decode cX11_keysAt 32 = .ok (.iload 6, 2) := by decide +kernel
theorem dX11_keysAt_34 : decode cX11_keysAt 34 = .ok (.bipush 15, 2) := by decide +kernel
theorem dX11_keysAt_36 : decode cX11_keysAt 36 = .ok (.if_icmp .le 5, 3) := by decide +kernel
theorem dX11_keysAt_39 : decode cX11_keysAt 39 = .ok (.iconst (-1), 1) := by decide +kernel
theorem dX11_keysAt_40 : decode cX11_keysAt 40 = .ok (.ireturn, 1) := by decide +kernel
theorem dX11_keysAt_41 : decode cX11_keysAt 41 = .ok (.iload 6, 2) := by decide +kernel
theorem dX11_keysAt_43 : decode cX11_keysAt 43 = .ok (.istore 4, 2) := by decide +kernel
theorem dX11_keysAt_45 : decode cX11_keysAt 45 = .ok (.iload_n 3, 1) := by decide +kernel
theorem dX11_keysAt_46 : decode cX11_keysAt 46 = .ok (.iconst 1, 1) := by decide +kernel
theorem dX11_keysAt_47 : decode cX11_keysAt 47 = .ok (.iload 6, 2) := by decide +kernel
theorem dX11_keysAt_49 : decode cX11_keysAt 49 = .ok (.ishl, 1) := by decide +kernel
theorem dX11_keysAt_50 : decode cX11_keysAt 50 = .ok (.ior, 1) := by decide +kernel
theorem dX11_keysAt_51 : decode cX11_keysAt 51 = .ok (.istore_n 3, 1) := by decide +kernel
theorem dX11_keysAt_52 : decode cX11_keysAt 52 = .ok (.iinc 5 1, 3) := by decide +kernel
theorem dX11_keysAt_55 : decode cX11_keysAt 55 = .ok (.goto (-47), 3) := by decide +kernel
theorem dX11_keysAt_58 : decode cX11_keysAt 58 = .ok (.iload_n 3, 1) := by decide +kernel
theorem dX11_keysAt_59 : decode cX11_keysAt 59 = .ok (.ireturn, 1) := by decide +kernel
theorem dX11_readDoc_0 : decode cX11_readDoc 0 = .ok (.aload_n 0, 1) := by decide +kernel
theorem dX11_readDoc_1 : decode cX11_readDoc 1 = .ok (.getfield 217, 3) := by decide +kernel
theorem dX11_readDoc_4 : decode cX11_readDoc 4 = .ok (.bipush 10, 2) := by decide +kernel
theorem dX11_readDoc_6 : decode cX11_readDoc 6 = .ok (.if_icmp .ge 5, 3) := by decide +kernel
theorem dX11_readDoc_9 : decode cX11_readDoc 9 = .ok (.iconst 0, 1) := by decide +kernel
theorem dX11_readDoc_10 : decode cX11_readDoc 10 = .ok (.ireturn, 1) := by decide +kernel
theorem dX11_readDoc_11 : decode cX11_readDoc 11 = .ok (.aload_n 0, 1) := by decide +kernel
theorem dX11_readDoc_12 : decode cX11_readDoc 12 = .ok (.aload_n 0, 1) := by decide +kernel
theorem dX11_readDoc_13 : decode cX11_readDoc 13 = .ok (.getfield 23, 3) := by decide +kernel
theorem dX11_readDoc_16 : decode cX11_readDoc 16 = .ok (.iconst 0, 1) := by decide +kernel
theorem dX11_readDoc_17 : decode cX11_readDoc 17 = .ok (.iaload, 1) := by decide +kernel
theorem dX11_readDoc_18 : decode cX11_readDoc 18 = .ok (.putfield 220, 3) := by decide +kernel
theorem dX11_readDoc_21 : decode cX11_readDoc 21 = .ok (.aload_n 0, 1) := by decide +kernel
theorem dX11_readDoc_22 : decode cX11_readDoc 22 = .ok (.iconst 3, 1) := by decide +kernel
theorem dX11_readDoc_23 : decode cX11_readDoc 23 = .ok (.putfield 223, 3) := by decide +kernel
theorem dX11_readDoc_26 : decode cX11_readDoc 26 = .ok (.aload_n 0, 1) := by decide +kernel
theorem dX11_readDoc_27 : decode cX11_readDoc 27 = .ok (.aload_n 0, 1) := by decide +kernel
theorem dX11_readDoc_28 : decode cX11_readDoc 28 = .ok (.iconst 1, 1) := by decide +kernel
theorem dX11_readDoc_29 : decode cX11_readDoc 29 = .ok (.iconst 2, 1) := by decide +kernel
theorem dX11_readDoc_30 : decode cX11_readDoc 30 = .ok (.invokevirtual 212, 3) := by decide +kernel
theorem dX11_readDoc_33 : decode cX11_readDoc 33 = .ok (.putfield 226, 3) := by decide +kernel
theorem dX11_readDoc_36 : decode cX11_readDoc 36 = .ok (.iconst 3, 1) := by decide +kernel
theorem dX11_readDoc_37 : decode cX11_readDoc 37 = .ok (.aload_n 0, 1) := by decide +kernel
theorem dX11_readDoc_38 : decode cX11_readDoc 38 = .ok (.getfield 226, 3) := by decide +kernel
theorem dX11_readDoc_41 : decode cX11_readDoc 41 = .ok (.iadd, 1) := by decide +kernel
theorem dX11_readDoc_42 : decode cX11_readDoc 42 = .ok (.istore_n 1, 1) := by decide +kernel
theorem dX11_readDoc_43 : decode cX11_readDoc 43 = .ok (.aload_n 0, 1) := by decide +kernel
theorem dX11_readDoc_44 : decode cX11_readDoc 44 = .ok (.getfield 220, 3) := by decide +kernel
theorem dX11_readDoc_47 : decode cX11_readDoc 47 = .ok (.iconst 3, 1) := by decide +kernel
theorem dX11_readDoc_48 : decode cX11_readDoc 48 = .ok (.if_icmp .gt 37, 3) := by decide +kernel
theorem dX11_readDoc_51 : decode cX11_readDoc 51 = .ok (.aload_n 0, 1) := by decide +kernel
theorem dX11_readDoc_52 : decode cX11_readDoc 52 = .ok (.getfield 226, 3) := by decide +kernel
theorem dX11_readDoc_55 : decode cX11_readDoc 55 = .ok (.bipush 6, 2) := by decide +kernel
theorem dX11_readDoc_57 : decode cX11_readDoc 57 = .ok (.if_icmp .lt 28, 3) := by decide +kernel
theorem dX11_readDoc_60 : decode cX11_readDoc 60 = .ok (.iload_n 1, 1) := by decide +kernel
theorem dX11_readDoc_61 : decode cX11_readDoc 61 = .ok (.aload_n 0, 1) := by decide +kernel
theorem dX11_readDoc_62 : decode cX11_readDoc 62 = .ok (.getfield 217, 3) := by decide +kernel
theorem dX11_readDoc_65 : decode cX11_readDoc 65 = .ok (.if_icmp .ge 20, 3) := by decide +kernel
theorem dX11_readDoc_68 : decode cX11_readDoc 68 = .ok (.aload_n 0, 1) := by decide +kernel
theorem dX11_readDoc_69 : decode cX11_readDoc 69 = .ok (.getfield 217, 3) := by decide +kernel
theorem dX11_readDoc_72 : decode cX11_readDoc 72 = .ok (.iload_n 1, 1) := by decide +kernel
theorem dX11_readDoc_73 : decode cX11_readDoc 73 = .ok (.iconst 1, 1) := by decide +kernel
theorem dX11_readDoc_74 : decode cX11_readDoc 74 = .ok (.iadd, 1) := by decide +kernel
theorem dX11_readDoc_75 : decode cX11_readDoc 75 = .ok (.aload_n 0, 1) := by decide +kernel
theorem dX11_readDoc_76 : decode cX11_readDoc 76 = .ok (.getfield 23, 3) := by decide +kernel
theorem dX11_readDoc_79 : decode cX11_readDoc 79 = .ok (.iload_n 1, 1) := by decide +kernel
theorem dX11_readDoc_80 : decode cX11_readDoc 80 = .ok (.iaload, 1) := by decide +kernel
theorem dX11_readDoc_81 : decode cX11_readDoc 81 = .ok (.iadd, 1) := by decide +kernel
theorem dX11_readDoc_82 : decode cX11_readDoc 82 = .ok (.if_icmp .eq 5, 3) := by decide +kernel
theorem dX11_readDoc_85 : decode cX11_readDoc 85 = .ok (.iconst 0, 1) := by decide +kernel
theorem dX11_readDoc_86 : decode cX11_readDoc 86 = .ok (.ireturn, 1) := by decide +kernel
theorem dX11_readDoc_87 : decode cX11_readDoc 87 = .ok (.aload_n 0, 1) := by decide +kernel
theorem dX11_readDoc_88 : decode cX11_readDoc 88 = .ok (.aload_n 0, 1) := by decide +kernel
theorem dX11_readDoc_89 : decode cX11_readDoc 89 = .ok (.iload_n 1, 1) := by decide +kernel
theorem dX11_readDoc_90 : decode cX11_readDoc 90 = .ok (.iconst 1, 1) := by decide +kernel
theorem dX11_readDoc_91 : decode cX11_readDoc 91 = .ok (.iadd, 1) := by decide +kernel
theorem dX11_readDoc_92 : decode cX11_readDoc 92 = .ok (.aload_n 0, 1) := by decide +kernel
theorem dX11_readDoc_93 : decode cX11_readDoc 93 = .ok (.getfield 23, 3) := by decide +kernel
theorem dX11_readDoc_96 : decode cX11_readDoc 96 = .ok (.iload_n 1, 1) := by decide +kernel
theorem dX11_readDoc_97 : decode cX11_readDoc 97 = .ok (.iaload, 1) := by decide +kernel
theorem dX11_readDoc_98 : decode cX11_readDoc 98 = .ok (.invokevirtual 229, 3) := by decide +kernel
theorem dX11_readDoc_101 : decode cX11_readDoc 101 = .ok (.putfield 232, 3) := by decide +kernel
theorem dX11_readDoc_104 : decode cX11_readDoc 104 = .ok (.aload_n 0, 1) := by decide +kernel
theorem dX11_readDoc_105 : decode cX11_readDoc 105 = .ok (.aload_n 0, 1) := by decide +kernel
theorem dX11_readDoc_106 : decode cX11_readDoc 106 = .ok (.iconst 3, 1) := by decide +kernel
theorem dX11_readDoc_107 : decode cX11_readDoc 107 = .ok (.iconst 2, 1) := by decide +kernel
theorem dX11_readDoc_108 : decode cX11_readDoc 108 = .ok (.invokevirtual 212, 3) := by decide +kernel
theorem dX11_readDoc_111 : decode cX11_readDoc 111 = .ok (.putfield 235, 3) := by decide +kernel
theorem dX11_readDoc_114 : decode cX11_readDoc 114 = .ok (.aload_n 0, 1) := by decide +kernel
theorem dX11_readDoc_115 : decode cX11_readDoc 115 = .ok (.aload_n 0, 1) := by decide +kernel
theorem dX11_readDoc_116 : decode cX11_readDoc 116 = .ok (.iconst 5, 1) := by decide +kernel
theorem dX11_readDoc_117 : decode cX11_readDoc 117 = .ok (.iconst 4, 1) := by decide +kernel
theorem dX11_readDoc_118 : decode cX11_readDoc 118 = .ok (.invokevirtual 212, 3) := by decide +kernel
theorem dX11_readDoc_121 : decode cX11_readDoc 121 = .ok (.i2l, 1) := by decide +kernel
theorem dX11_readDoc_122 : decode cX11_readDoc 122 = .ok (.ldc2_w 215, 3) := by decide +kernel
theorem dX11_readDoc_125 : decode cX11_readDoc 125 = .ok (.land, 1) := by decide +kernel
theorem dX11_readDoc_126 : decode cX11_readDoc 126 = .ok (.putfield 238, 3) := by decide +kernel
theorem dX11_readDoc_129 : decode cX11_readDoc 129 = .ok (.aload_n 0, 1) := by decide +kernel
theorem dX11_readDoc_130 : decode cX11_readDoc 130 = .ok (.getfield 232, 3) := by decide +kernel
theorem dX11_readDoc_133 : decode cX11_readDoc 133 = .ok (.ifCond .lt 11, 3) := by decide +kernel
theorem dX11_readDoc_136 : decode cX11_readDoc 136 = .ok (.aload_n 0, 1) := by decide +kernel
theorem dX11_readDoc_137 : decode cX11_readDoc 137 = .ok (.getfield 235, 3) := by decide +kernel
theorem dX11_readDoc_140 : decode cX11_readDoc 140 = .ok (.iconst 1, 1) := by decide +kernel
theorem dX11_readDoc_141 : decode cX11_readDoc 141 = .ok (.if_icmp .ge 5, 3) := by decide +kernel
theorem dX11_readDoc_144 : decode cX11_readDoc 144 = .ok (.iconst 0, 1) := by decide +kernel
theorem dX11_readDoc_145 : decode cX11_readDoc 145 = .ok (.ireturn, 1) := by decide +kernel
theorem dX11_readDoc_146 : decode cX11_readDoc 146 = .ok (.aload_n 0, 1) := by decide +kernel
theorem dX11_readDoc_147 : decode cX11_readDoc 147 = .ok (.getfield 220, 3) := by decide +kernel
theorem dX11_readDoc_150 : decode cX11_readDoc 150 = .ok (.ifCond .ne 8, 3) := by decide +kernel
theorem dX11_readDoc_153 : decode cX11_readDoc 153 = .ok (.aload_n 0, 1) := by decide +kernel
theorem dX11_readDoc_154 : decode cX11_readDoc 154 = .ok (.invokevirtual 241, 3) := by decide +kernel
theorem dX11_readDoc_157 : decode cX11_readDoc 157 = .ok (.ireturn, 1) := by decide +kernel
theorem dX11_readDoc_158 : decode cX11_readDoc 158 = .ok (.aload_n 0, 1) := by decide +kernel
theorem dX11_readDoc_159 : decode cX11_readDoc 159 = .ok (.getfield 220, 3) := by decide +kernel
theorem dX11_readDoc_162 : decode cX11_readDoc 162 = .ok (.iconst 3, 1) := by decide +kernel
theorem dX11_readDoc_163 : decode cX11_readDoc 163 = .ok (.if_icmp .ne 8, 3) := by decide +kernel
theorem dX11_readDoc_166 : decode cX11_readDoc 166 = .ok (.aload_n 0, 1) := by decide +kernel
theorem dX11_readDoc_167 : decode cX11_readDoc 167 = .ok (.invokevirtual 244, 3) := by decide +kernel
theorem dX11_readDoc_170 : decode cX11_readDoc 170 = .ok (.ireturn, 1) := by decide +kernel
theorem dX11_readDoc_171 : decode cX11_readDoc 171 = .ok (.aload_n 0, 1) := by decide +kernel
theorem dX11_readDoc_172 : decode cX11_readDoc 172 = .ok (.getfield 226, 3) := by decide +kernel
theorem dX11_readDoc_175 : decode cX11_readDoc 175 = .ok (.bipush 16, 2) := by decide +kernel
theorem dX11_readDoc_177 : decode cX11_readDoc 177 = .ok (.if_icmp .eq 5, 3) := by decide +kernel
theorem dX11_readDoc_180 : decode cX11_readDoc 180 = .ok (.iconst 0, 1) := by decide +kernel
theorem dX11_readDoc_181 : decode cX11_readDoc 181 = .ok (.ireturn, 1) := by decide +kernel
theorem dX11_readDoc_182 : decode cX11_readDoc 182 = .ok (.aload_n 0, 1) := by decide +kernel
theorem dX11_readDoc_183 : decode cX11_readDoc 183 = .ok (.aload_n 0, 1) := by decide +kernel
theorem dX11_readDoc_184 : decode cX11_readDoc 184 = .ok (.bipush 9, 2) := by decide +kernel
theorem dX11_readDoc_186 : decode cX11_readDoc 186 = .ok (.iconst 2, 1) := by decide +kernel
theorem dX11_readDoc_187 : decode cX11_readDoc 187 = .ok (.invokevirtual 212, 3) := by decide +kernel
theorem dX11_readDoc_190 : decode cX11_readDoc 190 = .ok (.putfield 247, 3) := by decide +kernel
theorem dX11_readDoc_193 : decode cX11_readDoc 193 = .ok (.aload_n 0, 1) := by decide +kernel
theorem dX11_readDoc_194 : decode cX11_readDoc 194 = .ok (.aload_n 0, 1) := by decide +kernel
theorem dX11_readDoc_195 : decode cX11_readDoc 195 = .ok (.bipush 11, 2) := by decide +kernel
theorem dX11_readDoc_197 : decode cX11_readDoc 197 = .ok (.invokevirtual 250, 3) := by decide +kernel
theorem dX11_readDoc_200 : decode cX11_readDoc 200 = .ok (.putfield 253, 3) := by decide +kernel
theorem dX11_readDoc_203 : decode cX11_readDoc 203 = .ok (.aload_n 0, 1) := by decide +kernel
theorem dX11_readDoc_204 : decode cX11_readDoc 204 = .ok (.getfield 247, 3) := by decide +kernel
theorem dX11_readDoc_207 : decode cX11_readDoc 207 = .ok (.iconst 1, 1) := by decide +kernel
theorem dX11_readDoc_208 : decode cX11_readDoc 208 = .ok (.if_icmp .lt 7, 3) := by decide +kernel
theorem dX11_readDoc_211 : decode cX11_readDoc 211 = .ok (.iconst 1, 1) := by decide +kernel
theorem dX11_readDoc_212 : decode cX11_readDoc 212 = .ok (.goto 4, 3) := by decide +kernel
theorem dX11_readDoc_215 : decode cX11_readDoc 215 = .ok (.iconst 0, 1) := by decide +kernel
theorem dX11_readDoc_216 : decode cX11_readDoc 216 = .ok (.ireturn, 1) := by decide +kernel
theorem dX11_readRoles_0 : decode cX11_readRoles 0 = .ok (.bipush 9, 2) := by decide +kernel
theorem dX11_readRoles_2 : decode cX11_readRoles 2 = .ok (.istore_n 1, 1) := by decide +kernel
theorem dX11_readRoles_3 : decode cX11_readRoles 3 = .ok (.iconst 3, 1) := by decide +kernel
theorem dX11_readRoles_4 : decode cX11_readRoles 4 = .ok (.aload_n 0, 1) := by decide +kernel
theorem dX11_readRoles_5 : decode cX11_readRoles 5 = .ok (.getfield 226, 3) := by decide +kernel
theorem dX11_readRoles_8 : decode cX11_readRoles 8 = .ok (.iadd, 1) := by decide +kernel
theorem dX11_readRoles_9 : decode cX11_readRoles 9 = .ok (.istore_n 2, 1) := by decide +kernel
theorem dX11_readRoles_10 : decode cX11_readRoles 10 = .ok (.iconst 0, 1) := by decide +kernel
theorem dX11_readRoles_11 : decode cX11_readRoles 11 = .ok (.istore_n 3, 1) := by decide +kernel
theorem dX11_readRoles_12 : decode cX11_readRoles 12 = .ok (.iload_n 3, 1) := by decide +kernel
theorem dX11_readRoles_13 : decode cX11_readRoles 13 = .ok (.iconst 4, 1) := by decide +kernel
theorem dX11_readRoles_14 : decode cX11_readRoles 14 = .ok (.if_icmp .ge 108, 3) := by decide +kernel
theorem dX11_readRoles_17 : decode cX11_readRoles 17 = .ok (.iload_n 1, 1) := by decide +kernel
theorem dX11_readRoles_18 : decode cX11_readRoles 18 = .ok (.iconst 2, 1) := by decide +kernel
theorem dX11_readRoles_19 : decode cX11_readRoles 19 = .ok (.iadd, 1) := by decide +kernel
theorem dX11_readRoles_20 : decode cX11_readRoles 20 = .ok (.iload_n 2, 1) := by decide +kernel
theorem dX11_readRoles_21 : decode cX11_readRoles 21 = .ok (.if_icmp .le 5, 3) := by decide +kernel
theorem dX11_readRoles_24 : decode cX11_readRoles 24 = .ok (.iconst 0, 1) := by decide +kernel
theorem dX11_readRoles_25 : decode cX11_readRoles 25 = .ok (.ireturn, 1) := by decide +kernel
theorem dX11_readRoles_26 : decode cX11_readRoles 26 = .ok (.aload_n 0, 1) := by decide +kernel
theorem dX11_readRoles_27 : decode cX11_readRoles 27 = .ok (.getfield 23, 3) := by decide +kernel
theorem dX11_readRoles_30 : decode cX11_readRoles 30 = .ok (.iload_n 1, 1) := by decide +kernel
theorem dX11_readRoles_31 : decode cX11_readRoles 31 = .ok (.iaload, 1) := by decide +kernel
theorem dX11_readRoles_32 : decode cX11_readRoles 32 = .ok (.istore 4, 2) := by decide +kernel
theorem dX11_readRoles_34 : decode cX11_readRoles 34 = .ok (.aload_n 0, 1) := by decide +kernel
theorem dX11_readRoles_35 : decode cX11_readRoles 35 = .ok (.getfield 23, 3) := by decide +kernel
theorem dX11_readRoles_38 : decode cX11_readRoles 38 = .ok (.iload_n 1, 1) := by decide +kernel
theorem dX11_readRoles_39 : decode cX11_readRoles 39 = .ok (.iconst 1, 1) := by decide +kernel
theorem dX11_readRoles_40 : decode cX11_readRoles 40 = .ok (.iadd, 1) := by decide +kernel
theorem dX11_readRoles_41 : decode cX11_readRoles 41 = .ok (.iaload, 1) := by decide +kernel
theorem dX11_readRoles_42 : decode cX11_readRoles 42 = .ok (.istore 5, 2) := by decide +kernel
theorem dX11_readRoles_44 : decode cX11_readRoles 44 = .ok (.iload 5, 2) := by decide +kernel
theorem dX11_readRoles_46 : decode cX11_readRoles 46 = .ok (.iconst 5, 1) := by decide +kernel
theorem dX11_readRoles_47 : decode cX11_readRoles 47 = .ok (.if_icmp .gt 26, 3) := by decide +kernel
theorem dX11_readRoles_50 : decode cX11_readRoles 50 = .ok (.iload 4, 2) := by decide +kernel
theorem dX11_readRoles_52 : decode cX11_readRoles 52 = .ok (.iconst 1, 1) := by decide +kernel
theorem dX11_readRoles_53 : decode cX11_readRoles 53 = .ok (.if_icmp .lt 20, 3) := by decide +kernel
theorem dX11_readRoles_56 : decode cX11_readRoles 56 = .ok (.iload 4, 2) := by decide +kernel
theorem dX11_readRoles_58 : decode cX11_readRoles 58 = .ok (.iload 5, 2) := by decide +kernel
theorem dX11_readRoles_60 : decode cX11_readRoles 60 = .ok (.if_icmp .gt 13, 3) := by decide +kernel
theorem dX11_readRoles_63 : decode cX11_readRoles 63 = .ok (.iload_n 1, 1) := by decide +kernel
theorem dX11_readRoles_64 : decode cX11_readRoles 64 = .ok (.iconst 2, 1) := by decide +kernel
theorem dX11_readRoles_65 : decode cX11_readRoles 65 = .ok (.iadd, 1) := by decide +kernel
theorem dX11_readRoles_66 : decode cX11_readRoles 66 = .ok (.iload 5, 2) := by decide +kernel
theorem dX11_readRoles_68 : decode cX11_readRoles 68 = .ok (.iadd, 1) := by decide +kernel
theorem dX11_readRoles_69 : decode cX11_readRoles 69 = .ok (.iload_n 2, 1) := by decide +kernel
theorem dX11_readRoles_70 : decode cX11_readRoles 70 = .ok (.if_icmp .le 5, 3) := by decide +kernel
theorem dX11_readRoles_73 : decode cX11_readRoles 73 = .ok (.iconst 0, 1) := by decide +kernel
theorem dX11_readRoles_74 : decode cX11_readRoles 74 = .ok (.ireturn, 1) := by decide +kernel
theorem dX11_readRoles_75 : decode cX11_readRoles 75 = .ok (.aload_n 0, 1) := by decide +kernel
theorem dX11_readRoles_76 : decode cX11_readRoles 76 = .ok (.getfield 26, 3) := by decide +kernel
theorem dX11_readRoles_79 : decode cX11_readRoles 79 = .ok (.iload_n 3, 1) := by decide +kernel
theorem dX11_readRoles_80 : decode cX11_readRoles 80 = .ok (.aload_n 0, 1) := by decide +kernel
theorem dX11_readRoles_81 : decode cX11_readRoles 81 = .ok (.iload_n 1, 1) := by decide +kernel
theorem dX11_readRoles_82 : decode cX11_readRoles 82 = .ok (.iconst 2, 1) := by decide +kernel
theorem dX11_readRoles_83 : decode cX11_readRoles 83 = .ok (.iadd, 1) := by decide +kernel
theorem dX11_readRoles_84 : decode cX11_readRoles 84 = .ok (.iload 5, 2) := by decide +kernel
theorem dX11_readRoles_86 : decode cX11_readRoles 86 = .ok (.invokevirtual 229, 3) := by decide +kernel
theorem dX11_readRoles_89 : decode cX11_readRoles 89 = .ok (.iastore, 1) := by decide +kernel
theorem dX11_readRoles_90 : decode cX11_readRoles 90 = .ok (.aload_n 0, 1) := by decide +kernel
theorem dX11_readRoles_91 : decode cX11_readRoles 91 = .ok (.getfield 29, 3) := by decide +kernel
theorem dX11_readRoles_94 : decode cX11_readRoles 94 = .ok (.iload_n 3, 1) := by decide +kernel
theorem dX11_readRoles_95 : decode cX11_readRoles 95 = .ok (.iload 4, 2) := by decide +kernel
theorem dX11_readRoles_97 : decode cX11_readRoles 97 = .ok (.iastore, 1) := by decide +kernel
theorem dX11_readRoles_98 : decode cX11_readRoles 98 = .ok (.aload_n 0, 1) := by decide +kernel
theorem dX11_readRoles_99 : decode cX11_readRoles 99 = .ok (.getfield 26, 3) := by decide +kernel
theorem dX11_readRoles_102 : decode cX11_readRoles 102 = .ok (.iload_n 3, 1) := by decide +kernel
theorem dX11_readRoles_103 : decode cX11_readRoles 103 = .ok (.iaload, 1) := by decide +kernel
theorem dX11_readRoles_104 : decode cX11_readRoles 104 = .ok (.ifCond .ge 5, 3) := by decide +kernel
theorem dX11_readRoles_107 : decode cX11_readRoles 107 = .ok (.iconst 0, 1) := by decide +kernel
theorem dX11_readRoles_108 : decode cX11_readRoles 108 = .ok (.ireturn, 1) := by decide +kernel
theorem dX11_readRoles_109 : decode cX11_readRoles 109 = .ok (.iload_n 1, 1) := by decide +kernel
theorem dX11_readRoles_110 : decode cX11_readRoles 110 = .ok (.iconst 2, 1) := by decide +kernel
theorem dX11_readRoles_111 : decode cX11_readRoles 111 = .ok (.iload 5, 2) := by decide +kernel
theorem dX11_readRoles_113 : decode cX11_readRoles 113 = .ok (.iadd, 1) := by decide +kernel
theorem dX11_readRoles_114 : decode cX11_readRoles 114 = .ok (.iadd, 1) := by decide +kernel
theorem dX11_readRoles_115 : decode cX11_readRoles 115 = .ok (.istore_n 1, 1) := by decide +kernel
theorem dX11_readRoles_116 : decode cX11_readRoles 116 = .ok (.iinc 3 1, 3) := by decide +kernel
theorem dX11_readRoles_119 : decode cX11_readRoles 119 = .ok (.goto (-107), 3) := by decide +kernel
theorem dX11_readRoles_122 : decode cX11_readRoles 122 = .ok (.iload_n 1, 1) := by decide +kernel
theorem dX11_readRoles_123 : decode cX11_readRoles 123 = .ok (.iload_n 2, 1) := by decide +kernel
theorem dX11_readRoles_124 : decode cX11_readRoles 124 = .ok (.if_icmp .ne 7, 3) := by decide +kernel
theorem dX11_readRoles_127 : decode cX11_readRoles 127 = .ok (.iconst 1, 1) := by decide +kernel
theorem dX11_readRoles_128 : decode cX11_readRoles 128 = .ok (.goto 4, 3) := by decide +kernel
theorem dX11_readRoles_131 : decode cX11_readRoles 131 = .ok (.iconst 0, 1) := by decide +kernel
theorem dX11_readRoles_132 : decode cX11_readRoles 132 = .ok (.ireturn, 1) := by decide +kernel
theorem dX11_readImages_0 : decode cX11_readImages 0 = .ok (.iconst 3, 1) := by decide +kernel
theorem dX11_readImages_1 : decode cX11_readImages 1 = .ok (.aload_n 0, 1) := by decide +kernel
theorem dX11_readImages_2 : decode cX11_readImages 2 = .ok (.getfield 226, 3) := by decide +kernel
theorem dX11_readImages_5 : decode cX11_readImages 5 = .ok (.iadd, 1) := by decide +kernel
theorem dX11_readImages_6 : decode cX11_readImages 6 = .ok (.istore_n 1, 1) := by decide +kernel
theorem dX11_readImages_7 : decode cX11_readImages 7 = .ok (.aload_n 0, 1) := by decide +kernel
theorem dX11_readImages_8 : decode cX11_readImages 8 = .ok (.getfield 226, 3) := by decide +kernel
theorem dX11_readImages_11 : decode cX11_readImages 11 = .ok (.bipush 7, 2) := by decide +kernel
theorem dX11_readImages_13 : decode cX11_readImages 13 = .ok (.if_icmp .ge 5, 3) := by decide +kernel
theorem dX11_readImages_16 : decode cX11_readImages 16 = .ok (.iconst 0, 1) := by decide +kernel
theorem dX11_readImages_17 : decode cX11_readImages 17 = .ok (.ireturn, 1) := by decide +kernel
theorem dX11_readImages_18 : decode cX11_readImages 18 = .ok (.aload_n 0, 1) := by decide +kernel
theorem dX11_readImages_19 : decode cX11_readImages 19 = .ok (.aload_n 0, 1) := by decide +kernel
theorem dX11_readImages_20 : decode cX11_readImages 20 = .ok (.getfield 23, 3) := by decide +kernel
theorem dX11_readImages_23 : decode cX11_readImages 23 = .ok (.bipush 9, 2) := by decide +kernel
theorem dX11_readImages_25 : decode cX11_readImages 25 = .ok (.iaload, 1) := by decide +kernel
theorem dX11_readImages_26 : decode cX11_readImages 26 = .ok (.putfield 256, 3) := by decide +kernel
theorem dX11_readImages_29 : decode cX11_readImages 29 = .ok (.aload_n 0, 1) := by decide +kernel
theorem dX11_readImages_30 : decode cX11_readImages 30 = .ok (.getfield 256, 3) := by decide +kernel
theorem dX11_readImages_33 : decode cX11_readImages 33 = .ok (.iconst 4, 1) := by decide +kernel
theorem dX11_readImages_34 : decode cX11_readImages 34 = .ok (.if_icmp .gt 17, 3) := by decide +kernel
theorem dX11_readImages_37 : decode cX11_readImages 37 = .ok (.bipush 10, 2) := by decide +kernel
theorem dX11_readImages_39 : decode cX11_readImages 39 = .ok (.bipush 12, 2) := by decide +kernel
theorem dX11_readImages_41 : decode cX11_readImages 41 = .ok (.aload_n 0, 1) := by decide +kernel
theorem dX11_readImages_42 : decode cX11_readImages 42 = .ok (.getfield 256, 3) := by decide +kernel
theorem dX11_readImages_45 : decode cX11_readImages 45 = .ok (.imul, 1) := by decide +kernel
theorem dX11_readImages_46 : decode cX11_readImages 46 = .ok (.iadd, 1) := by decide +kernel
theorem dX11_readImages_47 : decode cX11_readImages 47 = .ok (.iload_n 1, 1) := by decide +kernel
theorem dX11_readImages_48 : decode cX11_readImages 48 = .ok (.if_icmp .eq 5, 3) := by decide +kernel
theorem dX11_readImages_51 : decode cX11_readImages 51 = .ok (.iconst 0, 1) := by decide +kernel
theorem dX11_readImages_52 : decode cX11_readImages 52 = .ok (.ireturn, 1) := by decide +kernel
theorem dX11_readImages_53 : decode cX11_readImages 53 = .ok (.iconst 0, 1) := by decide +kernel
theorem dX11_readImages_54 : decode cX11_readImages 54 = .ok (.istore_n 2, 1) := by decide +kernel
theorem dX11_readImages_55 : decode cX11_readImages 55 = .ok (.iconst 0, 1) := by decide +kernel
theorem dX11_readImages_56 : decode cX11_readImages 56 = .ok (.istore_n 3, 1) := by decide +kernel
theorem dX11_readImages_57 : decode cX11_readImages 57 = .ok (.iload_n 3, 1) := by decide +kernel
theorem dX11_readImages_58 : decode cX11_readImages 58 = .ok (.aload_n 0, 1) := by decide +kernel
theorem dX11_readImages_59 : decode cX11_readImages 59 = .ok (.getfield 256, 3) := by decide +kernel
theorem dX11_readImages_62 : decode cX11_readImages 62 = .ok (.if_icmp .ge 101, 3) := by decide +kernel
theorem dX11_readImages_65 : decode cX11_readImages 65 = .ok (.bipush 10, 2) := by decide +kernel
theorem dX11_readImages_67 : decode cX11_readImages 67 = .ok (.bipush 12, 2) := by decide +kernel
theorem dX11_readImages_69 : decode cX11_readImages 69 = .ok (.iload_n 3, 1) := by decide +kernel
theorem dX11_readImages_70 : decode cX11_readImages 70 = .ok (.imul, 1) := by decide +kernel
theorem dX11_readImages_71 : decode cX11_readImages 71 = .ok (.iadd, 1) := by decide +kernel
theorem dX11_readImages_72 : decode cX11_readImages 72 = .ok (.istore 4, 2) := by decide +kernel
theorem dX11_readImages_74 : decode cX11_readImages 74 = .ok (.aload_n 0, 1) := by decide +kernel
theorem dX11_readImages_75 : decode cX11_readImages 75 = .ok (.getfield 32, 3) := by decide +kernel
theorem dX11_readImages_78 : decode cX11_readImages 78 = .ok (.iload_n 3, 1) := by decide +kernel
theorem dX11_readImages_79 : decode cX11_readImages 79 = .ok (.aload_n 0, 1) := by decide +kernel
theorem dX11_readImages_80 : decode cX11_readImages 80 = .ok (.iload 4, 2) := by decide +kernel
theorem dX11_readImages_82 : decode cX11_readImages 82 = .ok (.iconst 2, 1) := by decide +kernel
theorem dX11_readImages_83 : decode cX11_readImages 83 = .ok (.invokevirtual 212, 3) := by decide +kernel
theorem dX11_readImages_86 : decode cX11_readImages 86 = .ok (.iastore, 1) := by decide +kernel
theorem dX11_readImages_87 : decode cX11_readImages 87 = .ok (.aload_n 0, 1) := by decide +kernel
theorem dX11_readImages_88 : decode cX11_readImages 88 = .ok (.getfield 35, 3) := by decide +kernel
theorem dX11_readImages_91 : decode cX11_readImages 91 = .ok (.iload_n 3, 1) := by decide +kernel
theorem dX11_readImages_92 : decode cX11_readImages 92 = .ok (.aload_n 0, 1) := by decide +kernel
theorem dX11_readImages_93 : decode cX11_readImages 93 = .ok (.iload 4, 2) := by decide +kernel
theorem dX11_readImages_95 : decode cX11_readImages 95 = .ok (.iconst 2, 1) := by decide +kernel
theorem dX11_readImages_96 : decode cX11_readImages 96 = .ok (.iadd, 1) := by decide +kernel
theorem dX11_readImages_97 : decode cX11_readImages 97 = .ok (.iconst 2, 1) := by decide +kernel
theorem dX11_readImages_98 : decode cX11_readImages 98 = .ok (.invokevirtual 212, 3) := by decide +kernel
theorem dX11_readImages_101 : decode cX11_readImages 101 = .ok (.iastore, 1) := by decide +kernel
theorem dX11_readImages_102 : decode cX11_readImages 102 = .ok (.aload_n 0, 1) := by decide +kernel
theorem dX11_readImages_103 : decode cX11_readImages 103 = .ok (.getfield 38, 3) := by decide +kernel
theorem dX11_readImages_106 : decode cX11_readImages 106 = .ok (.iload_n 3, 1) := by decide +kernel
theorem dX11_readImages_107 : decode cX11_readImages 107 = .ok (.aload_n 0, 1) := by decide +kernel
theorem dX11_readImages_108 : decode cX11_readImages 108 = .ok (.iload 4, 2) := by decide +kernel
theorem dX11_readImages_110 : decode cX11_readImages 110 = .ok (.iconst 4, 1) := by decide +kernel
theorem dX11_readImages_111 : decode cX11_readImages 111 = .ok (.iadd, 1) := by decide +kernel
theorem dX11_readImages_112 : decode cX11_readImages 112 = .ok (.invokevirtual 250, 3) := by decide +kernel
theorem dX11_readImages_115 : decode cX11_readImages 115 = .ok (.lastore, 1) := by decide +kernel
theorem dX11_readImages_116 : decode cX11_readImages 116 = .ok (.aload_n 0, 1) := by decide +kernel
theorem dX11_readImages_117 : decode cX11_readImages 117 = .ok (.getfield 32, 3) := by decide +kernel
theorem dX11_readImages_120 : decode cX11_readImages 120 = .ok (.iload_n 3, 1) := by decide +kernel
theorem dX11_readImages_121 : decode cX11_readImages 121 = .ok (.iaload, 1) := by decide +kernel
theorem dX11_readImages_122 : decode cX11_readImages 122 = .ok (.iload_n 2, 1) := by decide +kernel
theorem dX11_readImages_123 : decode cX11_readImages 123 = .ok (.if_icmp .le 25, 3) := by decide +kernel
theorem dX11_readImages_126 : decode cX11_readImages 126 = .ok (.aload_n 0, 1) := by decide +kernel
theorem dX11_readImages_127 : decode cX11_readImages 127 = .ok (.getfield 35, 3) := by decide +kernel
theorem dX11_readImages_130 : decode cX11_readImages 130 = .ok (.iload_n 3, 1) := by decide +kernel
theorem dX11_readImages_131 : decode cX11_readImages 131 = .ok (.iaload, 1) := by decide +kernel
theorem dX11_readImages_132 : decode cX11_readImages 132 = .ok (.iconst 1, 1) := by decide +kernel
theorem dX11_readImages_133 : decode cX11_readImages 133 = .ok (.if_icmp .lt 15, 3) := by decide +kernel
theorem dX11_readImages_136 : decode cX11_readImages 136 = .ok (.aload_n 0, 1) := by decide +kernel
theorem dX11_readImages_137 : decode cX11_readImages 137 = .ok (.getfield 35, 3) := by decide +kernel
theorem dX11_readImages_140 : decode cX11_readImages 140 = .ok (.iload_n 3, 1) := by decide +kernel
theorem dX11_readImages_141 : decode cX11_readImages 141 = .ok (.iaload, 1) := by decide +kernel
theorem dX11_readImages_142 : decode cX11_readImages 142 = .ok (.sipush 1024, 3) := by decide +kernel
theorem dX11_readImages_145 : decode cX11_readImages 145 = .ok (.if_icmp .le 5, 3) := by decide +kernel
theorem dX11_readImages_148 : decode cX11_readImages 148 = .ok (.iconst 0, 1) := by decide +kernel
theorem dX11_readImages_149 : decode cX11_readImages 149 = .ok (.ireturn, 1) := by decide +kernel
theorem dX11_readImages_150 : decode cX11_readImages 150 = .ok (.aload_n 0, 1) := by decide +kernel
theorem dX11_readImages_151 : decode cX11_readImages 151 = .ok (.getfield 32, 3) := by decide +kernel
theorem dX11_readImages_154 : decode cX11_readImages 154 = .ok (.iload_n 3, 1) := by decide +kernel
theorem dX11_readImages_155 : decode cX11_readImages 155 = .ok (.iaload, 1) := by decide +kernel
theorem dX11_readImages_156 : decode cX11_readImages 156 = .ok (.istore_n 2, 1) := by decide +kernel
theorem dX11_readImages_157 : decode cX11_readImages 157 = .ok (.iinc 3 1, 3) := by decide +kernel
theorem dX11_readImages_160 : decode cX11_readImages 160 = .ok (.goto (-103), 3) := by decide +kernel
theorem dX11_readImages_163 : decode cX11_readImages 163 = .ok (.iconst 1, 1) := by decide +kernel
theorem dX11_readImages_164 : decode cX11_readImages 164 = .ok (.ireturn, 1) := by decide +kernel
theorem dX11_bodyDigest_0 : decode cX11_bodyDigest 0 = .ok (.aload_n 0, 1) := by decide +kernel
theorem dX11_bodyDigest_1 : decode cX11_bodyDigest 1 = .ok (.invokevirtual 113, 3) := by decide +kernel
theorem dX11_bodyDigest_4 : decode cX11_bodyDigest 4 = .ok (.iconst 0, 1) := by decide +kernel
theorem dX11_bodyDigest_5 : decode cX11_bodyDigest 5 = .ok (.istore_n 1, 1) := by decide +kernel
theorem dX11_bodyDigest_6 : decode cX11_bodyDigest 6 = .ok (.iload_n 1, 1) := by decide +kernel
theorem dX11_bodyDigest_7 : decode cX11_bodyDigest 7 = .ok (.aload_n 0, 1) := by decide +kernel
theorem dX11_bodyDigest_8 : decode cX11_bodyDigest 8 = .ok (.getfield 226, 3) := by decide +kernel
theorem dX11_bodyDigest_11 : decode cX11_bodyDigest 11 = .ok (.if_icmp .ge 24, 3) := by decide +kernel
theorem dX11_bodyDigest_14 : decode cX11_bodyDigest 14 = .ok (.aload_n 0, 1) := by decide +kernel
theorem dX11_bodyDigest_15 : decode cX11_bodyDigest 15 = .ok (.aload_n 0, 1) := by decide +kernel
theorem dX11_bodyDigest_16 : decode cX11_bodyDigest 16 = .ok (.getfield 23, 3) := by decide +kernel
theorem dX11_bodyDigest_19 : decode cX11_bodyDigest 19 = .ok (.aload_n 0, 1) := by decide +kernel
theorem dX11_bodyDigest_20 : decode cX11_bodyDigest 20 = .ok (.getfield 223, 3) := by decide +kernel
theorem dX11_bodyDigest_23 : decode cX11_bodyDigest 23 = .ok (.iload_n 1, 1) := by decide +kernel
theorem dX11_bodyDigest_24 : decode cX11_bodyDigest 24 = .ok (.iadd, 1) := by decide +kernel
theorem dX11_bodyDigest_25 : decode cX11_bodyDigest 25 = .ok (.iaload, 1) := by decide +kernel
theorem dX11_bodyDigest_26 : decode cX11_bodyDigest 26 = .ok (.invokevirtual 116, 3) := by decide +kernel
theorem dX11_bodyDigest_29 : decode cX11_bodyDigest 29 = .ok (.iinc 1 1, 3) := by decide +kernel
theorem dX11_bodyDigest_32 : decode cX11_bodyDigest 32 = .ok (.goto (-26), 3) := by decide +kernel
theorem dX11_bodyDigest_35 : decode cX11_bodyDigest 35 = .ok (.aload_n 0, 1) := by decide +kernel
theorem dX11_bodyDigest_36 : decode cX11_bodyDigest 36 = .ok (.getfield 108, 3) := by decide +kernel
theorem dX11_bodyDigest_39 : decode cX11_bodyDigest 39 = .ok (.lreturn, 1) := by decide +kernel
theorem dX11_hasSigned_0 : decode cX11_hasSigned 0 = .ok (.iconst 0, 1) := by decide +kernel
theorem dX11_hasSigned_1 : decode cX11_hasSigned 1 = .ok (.istore 4, 2) := by decide +kernel
theorem dX11_hasSigned_3 : decode cX11_hasSigned 3 = .ok (.iconst 0, 1) := by decide +kernel
theorem dX11_hasSigned_4 : decode cX11_hasSigned 4 = .ok (.istore 5, 2) := by decide +kernel
theorem dX11_hasSigned_6 : decode cX11_hasSigned 6 = .ok (.iload 5, 2) := by decide +kernel
theorem dX11_hasSigned_8 : decode cX11_hasSigned 8 = .ok (.aload_n 0, 1) := by decide +kernel
theorem dX11_hasSigned_9 : decode cX11_hasSigned 9 = .ok (.getfield 259, 3) := by decide +kernel
theorem dX11_hasSigned_12 : decode cX11_hasSigned 12 = .ok (.if_icmp .ge 44, 3) := by decide +kernel
theorem dX11_hasSigned_15 : decode cX11_hasSigned 15 = .ok (.iload 4, 2) := by decide +kernel
theorem dX11_hasSigned_17 : decode cX11_hasSigned 17 = .ok (.ifCond .ne 26, 3) := by decide +kernel
theorem dX11_hasSigned_20 : decode cX11_hasSigned 20 = .ok (.aload_n 0, 1) := by decide +kernel
theorem dX11_hasSigned_21 : decode cX11_hasSigned 21 = .ok (.getfield 42, 3) := by decide +kernel
theorem dX11_hasSigned_24 : decode cX11_hasSigned 24 = .ok (.iload 5, 2) := by decide +kernel
theorem dX11_hasSigned_26 : decode cX11_hasSigned 26 = .ok (.iaload, 1) := by decide +kernel
theorem dX11_hasSigned_27 : decode cX11_hasSigned 27 = .ok (.iload_n 1, 1) := by decide +kernel
theorem dX11_hasSigned_28 : decode cX11_hasSigned 28 = .ok (.if_icmp .ne 19, 3) := by decide +kernel
theorem dX11_hasSigned_31 : decode cX11_hasSigned 31 = .ok (.aload_n 0, 1) := by decide +kernel
theorem dX11_hasSigned_32 : decode cX11_hasSigned 32 = .ok (.getfield 45, 3) := by decide +kernel
theorem dX11_hasSigned_35 : decode cX11_hasSigned 35 = .ok (.iload 5, 2) := by decide +kernel
theorem dX11_hasSigned_37 : decode cX11_hasSigned 37 = .ok (.laload, 1) := by decide +kernel
theorem dX11_hasSigned_38 : decode cX11_hasSigned 38 = .ok (.lload_n 2, 1) := by decide +kernel
theorem dX11_hasSigned_39 : decode cX11_hasSigned 39 = .ok (.lcmp, 1) := by decide +kernel
theorem dX11_hasSigned_40 : decode cX11_hasSigned 40 = .ok (.ifCond .ne 7, 3) := by decide +kernel
theorem dX11_hasSigned_43 : decode cX11_hasSigned 43 = .ok (.iconst 1, 1) := by decide +kernel
theorem dX11_hasSigned_44 : decode cX11_hasSigned 44 = .ok (.goto 4, 3) := by decide +kernel
theorem dX11_hasSigned_47 : decode cX11_hasSigned 47 = .ok (.iconst 0, 1) := by decide +kernel
theorem dX11_hasSigned_48 : decode cX11_hasSigned 48 = .ok (.istore 4, 2) := by decide +kernel
theorem dX11_hasSigned_50 : decode cX11_hasSigned 50 = .ok (.iinc 5 1, 3) := by decide +kernel
theorem dX11_hasSigned_53 : decode cX11_hasSigned 53 = .ok (.goto (-47), 3) := by decide +kernel
theorem dX11_hasSigned_56 : decode cX11_hasSigned 56 = .ok (.iload 4, 2) := by decide +kernel
theorem dX11_hasSigned_58 : decode cX11_hasSigned 58 = .ok (.ireturn, 1) := by decide +kernel
theorem dX11_has_0 : decode cX11_has 0 = .ok (.aload_n 0, 1) := by decide +kernel
theorem dX11_has_1 : decode cX11_has 1 = .ok (.invokevirtual 262, 3) := by decide +kernel
theorem dX11_has_4 : decode cX11_has 4 = .ok (.lstore_n 3, 1) := by decide +kernel
theorem dX11_has_5 : decode cX11_has 5 = .ok (.iconst 0, 1) := by decide +kernel
theorem dX11_has_6 : decode cX11_has 6 = .ok (.istore 5, 2) := by decide +kernel
theorem dX11_has_8 : decode cX11_has 8 = .ok (.iconst 0, 1) := by decide +kernel
theorem dX11_has_9 : decode cX11_has 9 = .ok (.istore 6, 2) := by decide +kernel
theorem dX11_has_11 : decode cX11_has 11 = .ok (.iload 6, 2) := by decide +kernel
theorem dX11_has_13 : decode cX11_has 13 = .ok (.bipush 16, 2) := by decide +kernel
theorem dX11_has_15 : decode cX11_has 15 = .ok (.if_icmp .ge 64, 3) := by decide +kernel
theorem dX11_has_18 : decode cX11_has 18 = .ok (.iload_n 1, 1) := by decide +kernel
theorem dX11_has_19 : decode cX11_has 19 = .ok (.iload 6, 2) := by decide +kernel
theorem dX11_has_21 : decode cX11_has 21 = .ok (.ishr, 1) := by decide +kernel
theorem dX11_has_22 : decode cX11_has 22 = .ok (.iconst 1, 1) := by decide +kernel
theorem dX11_has_23 : decode cX11_has 23 = .ok (.iand, 1) := by decide +kernel
theorem dX11_has_24 : decode cX11_has 24 = .ok (.iconst 1, 1) := by decide +kernel
theorem dX11_has_25 : decode cX11_has 25 = .ok (.if_icmp .ne 20, 3) := by decide +kernel
theorem dX11_has_28 : decode cX11_has 28 = .ok (.aload_n 0, 1) := by decide +kernel
theorem dX11_has_29 : decode cX11_has 29 = .ok (.getfield 232, 3) := by decide +kernel
theorem dX11_has_32 : decode cX11_has 32 = .ok (.iload 6, 2) := by decide +kernel
theorem dX11_has_34 : decode cX11_has 34 = .ok (.ishr, 1) := by decide +kernel
theorem dX11_has_35 : decode cX11_has 35 = .ok (.iconst 1, 1) := by decide +kernel
theorem dX11_has_36 : decode cX11_has 36 = .ok (.iand, 1) := by decide +kernel
theorem dX11_has_37 : decode cX11_has 37 = .ok (.iconst 1, 1) := by decide +kernel
theorem dX11_has_38 : decode cX11_has 38 = .ok (.if_icmp .ne 7, 3) := by decide +kernel
theorem dX11_has_41 : decode cX11_has 41 = .ok (.iconst 1, 1) := by decide +kernel
theorem dX11_has_42 : decode cX11_has 42 = .ok (.goto 4, 3) := by decide +kernel
theorem dX11_has_45 : decode cX11_has 45 = .ok (.iconst 0, 1) := by decide +kernel
theorem dX11_has_46 : decode cX11_has 46 = .ok (.istore 7, 2) := by decide +kernel
theorem dX11_has_48 : decode cX11_has 48 = .ok (.iload 5, 2) := by decide +kernel
theorem dX11_has_50 : decode cX11_has 50 = .ok (.iload 7, 2) := by decide +kernel
theorem dX11_has_52 : decode cX11_has 52 = .ok (.ifCond .eq 17, 3) := by decide +kernel
theorem dX11_has_55 : decode cX11_has 55 = .ok (.aload_n 0, 1) := by decide +kernel
theorem dX11_has_56 : decode cX11_has 56 = .ok (.iload 6, 2) := by decide +kernel
theorem dX11_has_58 : decode cX11_has 58 = .ok (.lload_n 3, 1) := by decide +kernel
theorem dX11_has_59 : decode cX11_has 59 = .ok (.invokevirtual 266, 3) := by decide +kernel
theorem dX11_has_62 : decode cX11_has 62 = .ok (.ifCond .eq 7, 3) := by decide +kernel
theorem dX11_has_65 : decode cX11_has 65 = .ok (.iconst 1, 1) := by decide +kernel
theorem dX11_has_66 : decode cX11_has 66 = .ok (.goto 4, 3) := by decide +kernel
theorem dX11_has_69 : decode cX11_has 69 = .ok (.iconst 0, 1) := by decide +kernel
theorem dX11_has_70 : decode cX11_has 70 = .ok (.iadd, 1) := by decide +kernel
theorem dX11_has_71 : decode cX11_has 71 = .ok (.istore 5, 2) := by decide +kernel
theorem dX11_has_73 : decode cX11_has 73 = .ok (.iinc 6 1, 3) := by decide +kernel
theorem dX11_has_76 : decode cX11_has 76 = .ok (.goto (-65), 3) := by decide +kernel
theorem dX11_has_79 : decode cX11_has 79 = .ok (.iload 5, 2) := by decide +kernel
theorem dX11_has_81 : decode cX11_has 81 = .ok (.iload_n 2, 1) := by decide +kernel
theorem dX11_has_82 : decode cX11_has 82 = .ok (.if_icmp .lt 7, 3) := by decide +kernel
theorem dX11_has_85 : decode cX11_has 85 = .ok (.iconst 1, 1) := by decide +kernel
theorem dX11_has_86 : decode cX11_has 86 = .ok (.goto 4, 3) := by decide +kernel
theorem dX11_has_89 : decode cX11_has 89 = .ok (.iconst 0, 1) := by decide +kernel
theorem dX11_has_90 : decode cX11_has 90 = .ok (.ireturn, 1) := by decide +kernel
theorem dX11_isRecord_0 : decode cX11_isRecord 0 = .ok (.iload_n 3, 1) := by decide +kernel
theorem dX11_isRecord_1 : decode cX11_isRecord 1 = .ok (.ifCond .ne 13, 3) := by decide +kernel
theorem dX11_isRecord_4 : decode cX11_isRecord 4 = .ok (.iload_n 1, 1) := by decide +kernel
theorem dX11_isRecord_5 : decode cX11_isRecord 5 = .ok (.ifCond .eq 7, 3) := by decide +kernel
theorem dX11_isRecord_8 : decode cX11_isRecord 8 = .ok (.iconst 1, 1) := by decide +kernel
theorem dX11_isRecord_9 : decode cX11_isRecord 9 = .ok (.goto 4, 3) := by decide +kernel
theorem dX11_isRecord_12 : decode cX11_isRecord 12 = .ok (.iconst 0, 1) := by decide +kernel
theorem dX11_isRecord_13 : decode cX11_isRecord 13 = .ok (.ireturn, 1) := by decide +kernel
theorem dX11_isRecord_14 : decode cX11_isRecord 14 = .ok (.aload_n 0, 1) := by decide +kernel
theorem dX11_isRecord_15 : decode cX11_isRecord 15 = .ok (.iload_n 3, 1) := by decide +kernel
theorem dX11_isRecord_16 : decode cX11_isRecord 16 = .ok (.putfield 217, 3) := by decide +kernel
theorem dX11_isRecord_19 : decode cX11_isRecord 19 = .ok (.iconst 0, 1) := by decide +kernel
theorem dX11_isRecord_20 : decode cX11_isRecord 20 = .ok (.istore 4, 2) := by decide +kernel
theorem dX11_isRecord_22 : decode cX11_isRecord 22 = .ok (.iload 4, 2) := by decide +kernel
theorem dX11_isRecord_24 : decode cX11_isRecord 24 = .ok (.iload_n 3, 1) := by decide +kernel
theorem dX11_isRecord_25 : decode cX11_isRecord 25 = .ok (.if_icmp .ge 25, 3) := by decide +kernel
theorem dX11_isRecord_28 : decode cX11_isRecord 28 = .ok (.aload_n 0, 1) := by decide +kernel
theorem dX11_isRecord_29 : decode cX11_isRecord 29 = .ok (.getfield 23, 3) := by decide +kernel
theorem dX11_isRecord_32 : decode cX11_isRecord 32 = .ok (.iload 4, 2) := by decide +kernel
theorem dX11_isRecord_34 : decode cX11_isRecord 34 = .ok (.aload_n 0, 1) := by decide +kernel
theorem dX11_isRecord_35 : decode cX11_isRecord 35 = .ok (.getfield 7, 3) := by decide +kernel
theorem dX11_isRecord_38 : decode cX11_isRecord 38 = .ok (.iload_n 2, 1) := by decide +kernel
theorem dX11_isRecord_39 : decode cX11_isRecord 39 = .ok (.iload 4, 2) := by decide +kernel
theorem dX11_isRecord_41 : decode cX11_isRecord 41 = .ok (.iadd, 1) := by decide +kernel
theorem dX11_isRecord_42 : decode cX11_isRecord 42 = .ok (.iaload, 1) := by decide +kernel
theorem dX11_isRecord_43 : decode cX11_isRecord 43 = .ok (.iastore, 1) := by decide +kernel
theorem dX11_isRecord_44 : decode cX11_isRecord 44 = .ok (.iinc 4 1, 3) := by decide +kernel
theorem dX11_isRecord_47 : decode cX11_isRecord 47 = .ok (.goto (-25), 3) := by decide +kernel
theorem dX11_isRecord_50 : decode cX11_isRecord 50 = .ok (.aload_n 0, 1) := by decide +kernel
theorem dX11_isRecord_51 : decode cX11_isRecord 51 = .ok (.invokevirtual 270, 3) := by decide +kernel
theorem dX11_isRecord_54 : decode cX11_isRecord 54 = .ok (.ifCond .eq 15, 3) := by decide +kernel
theorem dX11_isRecord_57 : decode cX11_isRecord 57 = .ok (.aload_n 0, 1) := by decide +kernel
theorem dX11_isRecord_58 : decode cX11_isRecord 58 = .ok (.getfield 220, 3) := by decide +kernel
theorem dX11_isRecord_61 : decode cX11_isRecord 61 = .ok (.iload_n 1, 1) := by decide +kernel
theorem dX11_isRecord_62 : decode cX11_isRecord 62 = .ok (.if_icmp .ne 7, 3) := by decide +kernel
theorem dX11_isRecord_65 : decode cX11_isRecord 65 = .ok (.iconst 1, 1) := by decide +kernel
theorem dX11_isRecord_66 : decode cX11_isRecord 66 = .ok (.goto 4, 3) := by decide +kernel
theorem dX11_isRecord_69 : decode cX11_isRecord 69 = .ok (.iconst 0, 1) := by decide +kernel
theorem dX11_isRecord_70 : decode cX11_isRecord 70 = .ok (.ireturn, 1) := by decide +kernel
theorem dX11_findRecord_0 : decode cX11_findRecord 0 = .ok (.aload_n 0, 1) := by decide +kernel
theorem dX11_findRecord_1 : decode cX11_findRecord 1 = .ok (.bipush (-2), 2) := by decide +kernel
theorem dX11_findRecord_3 : decode cX11_findRecord 3 = .ok (.putfield 273, 3) := by decide +kernel
theorem dX11_findRecord_6 : decode cX11_findRecord 6 = .ok (.aload_n 0, 1) := by decide +kernel
theorem dX11_findRecord_7 : decode cX11_findRecord 7 = .ok (.iconst 0, 1) := by decide +kernel
theorem dX11_findRecord_8 : decode cX11_findRecord 8 = .ok (.putfield 276, 3) := by decide +kernel
theorem dX11_findRecord_11 : decode cX11_findRecord 11 = .ok (.aload_n 0, 1) := by decide +kernel
theorem dX11_findRecord_12 : decode cX11_findRecord 12 = .ok (.iconst 0, 1) := by decide +kernel
theorem dX11_findRecord_13 : decode cX11_findRecord 13 = .ok (.putfield 279, 3) := by decide +kernel
theorem dX11_findRecord_16 : decode cX11_findRecord 16 = .ok (.iconst 2, 1) := by decide +kernel
theorem dX11_findRecord_17 : decode cX11_findRecord 17 = .ok (.iload_n 1, 1) := by decide +kernel
theorem dX11_findRecord_18 : decode cX11_findRecord 18 = .ok (.imul, 1) := by decide +kernel
theorem dX11_findRecord_19 : decode cX11_findRecord 19 = .ok (.istore_n 2, 1) := by decide +kernel
theorem dX11_findRecord_20 : decode cX11_findRecord 20 = .ok (.iload_n 2, 1) := by decide +kernel
theorem dX11_findRecord_21 : decode cX11_findRecord 21 = .ok (.iconst 2, 1) := by decide +kernel
theorem dX11_findRecord_22 : decode cX11_findRecord 22 = .ok (.iload_n 1, 1) := by decide +kernel
theorem dX11_findRecord_23 : decode cX11_findRecord 23 = .ok (.imul, 1) := by decide +kernel
theorem dX11_findRecord_24 : decode cX11_findRecord 24 = .ok (.iconst 2, 1) := by decide +kernel
theorem dX11_findRecord_25 : decode cX11_findRecord 25 = .ok (.iadd, 1) := by decide +kernel
theorem dX11_findRecord_26 : decode cX11_findRecord 26 = .ok (.if_icmp .ge 136, 3) := by decide +kernel
theorem dX11_findRecord_29 : decode cX11_findRecord 29 = .ok (.sipush 128, 3) := by decide +kernel
theorem dX11_findRecord_32 : decode cX11_findRecord 32 = .ok (.iload_n 2, 1) := by decide +kernel
theorem dX11_findRecord_33 : decode cX11_findRecord 33 = .ok (.imul, 1) := by decide +kernel
theorem dX11_findRecord_34 : decode cX11_findRecord 34 = .ok (.istore_n 3, 1) := by decide +kernel
theorem dX11_findRecord_35 : decode cX11_findRecord 35 = .ok (.aload_n 0, 1) := by decide +kernel
theorem dX11_findRecord_36 : decode cX11_findRecord 36 = .ok (.iload_n 3, 1) := by decide +kernel
theorem dX11_findRecord_37 : decode cX11_findRecord 37 = .ok (.iconst 4, 1) := by decide +kernel
theorem dX11_findRecord_38 : decode cX11_findRecord 38 = .ok (.iadd, 1) := by decide +kernel
theorem dX11_findRecord_39 : decode cX11_findRecord 39 = .ok (.iconst 2, 1) := by decide +kernel
theorem dX11_findRecord_40 : decode cX11_findRecord 40 = .ok (.invokevirtual 154, 3) := by decide +kernel
theorem dX11_findRecord_43 : decode cX11_findRecord 43 = .ok (.istore 4, 2) := by decide +kernel
theorem dX11_findRecord_45 : decode cX11_findRecord 45 = .ok (.iload 4, 2) := by decide +kernel
theorem dX11_findRecord_47 : decode cX11_findRecord 47 = .ok (.bipush 118, 2) := by decide +kernel
theorem dX11_findRecord_49 : decode cX11_findRecord 49 = .ok (.if_icmp .gt 56, 3) := by decide +kernel
theorem dX11_findRecord_52 : decode cX11_findRecord 52 = .ok (.aload_n 0, 1) := by decide +kernel
theorem dX11_findRecord_53 : decode cX11_findRecord 53 = .ok (.iload_n 3, 1) := by decide +kernel
theorem dX11_findRecord_54 : decode cX11_findRecord 54 = .ok (.iconst 4, 1) := by decide +kernel
theorem dX11_findRecord_55 : decode cX11_findRecord 55 = .ok (.invokevirtual 154, 3) := by decide +kernel
theorem dX11_findRecord_58 : decode cX11_findRecord 58 = .ok (.iconst 1, 1) := by decide +kernel
theorem dX11_findRecord_59 : decode cX11_findRecord 59 = .ok (.if_icmp .lt 46, 3) := by decide +kernel
theorem dX11_findRecord_62 : decode cX11_findRecord 62 = .ok (.aload_n 0, 1) := by decide +kernel
theorem dX11_findRecord_63 : decode cX11_findRecord 63 = .ok (.iload_n 3, 1) := by decide +kernel
theorem dX11_findRecord_64 : decode cX11_findRecord 64 = .ok (.bipush 6, 2) := by decide +kernel
theorem dX11_findRecord_66 : decode cX11_findRecord 66 = .ok (.iload 4, 2) := by decide +kernel
theorem dX11_findRecord_68 : decode cX11_findRecord 68 = .ok (.iadd, 1) := by decide +kernel
theorem dX11_findRecord_69 : decode cX11_findRecord 69 = .ok (.invokevirtual 158, 3) := by decide +kernel
theorem dX11_findRecord_72 : decode cX11_findRecord 72 = .ok (.aload_n 0, 1) := by decide +kernel
theorem dX11_findRecord_73 : decode cX11_findRecord 73 = .ok (.iload_n 3, 1) := by decide +kernel
theorem dX11_findRecord_74 : decode cX11_findRecord 74 = .ok (.bipush 6, 2) := by decide +kernel
theorem dX11_findRecord_76 : decode cX11_findRecord 76 = .ok (.iadd, 1) := by decide +kernel
theorem dX11_findRecord_77 : decode cX11_findRecord 77 = .ok (.iload 4, 2) := by decide +kernel
theorem dX11_findRecord_79 : decode cX11_findRecord 79 = .ok (.iadd, 1) := by decide +kernel
theorem dX11_findRecord_80 : decode cX11_findRecord 80 = .ok (.iconst 4, 1) := by decide +kernel
theorem dX11_findRecord_81 : decode cX11_findRecord 81 = .ok (.invokevirtual 154, 3) := by decide +kernel
theorem dX11_findRecord_84 : decode cX11_findRecord 84 = .ok (.if_icmp .ne 21, 3) := by decide +kernel
theorem dX11_findRecord_87 : decode cX11_findRecord 87 = .ok (.aload_n 0, 1) := by decide +kernel
theorem dX11_findRecord_88 : decode cX11_findRecord 88 = .ok (.iload_n 1, 1) := by decide +kernel
theorem dX11_findRecord_89 : decode cX11_findRecord 89 = .ok (.iload_n 3, 1) := by decide +kernel
theorem dX11_findRecord_90 : decode cX11_findRecord 90 = .ok (.bipush 6, 2) := by decide +kernel
theorem dX11_findRecord_92 : decode cX11_findRecord 92 = .ok (.iadd, 1) := by decide +kernel
theorem dX11_findRecord_93 : decode cX11_findRecord 93 = .ok (.iload 4, 2) := by decide +kernel
theorem dX11_findRecord_95 : decode cX11_findRecord 95 = .ok (.invokevirtual 282, 3) := by decide +kernel
theorem dX11_findRecord_98 : decode cX11_findRecord 98 = .ok (.ifCond .eq 7, 3) := by decide +kernel
theorem dX11_findRecord_101 : decode cX11_findRecord 101 = .ok (.iconst 1, 1) := by decide +kernel
theorem dX11_findRecord_102 : decode cX11_findRecord 102 = .ok (.goto 4, 3) := by decide +kernel
theorem dX11_findRecord_105 : decode cX11_findRecord 105 = .ok (.iconst 0, 1) := by decide +kernel
theorem dX11_findRecord_106 : decode cX11_findRecord 106 = .ok (.istore 5, 2) := by decide +kernel
theorem dX11_findRecord_108 : decode cX11_findRecord 108 = .ok (.iload 5, 2) := by decide +kernel
theorem dX11_findRecord_110 : decode cX11_findRecord 110 = .ok (.ifCond .eq 46, 3) := by decide +kernel
theorem dX11_findRecord_113 : decode cX11_findRecord 113 = .ok (.aload_n 0, 1) := by decide +kernel
theorem dX11_findRecord_114 : decode cX11_findRecord 114 = .ok (.getfield 273, 3) := by decide +kernel
theorem dX11_findRecord_117 : decode cX11_findRecord 117 = .ok (.bipush (-2), 2) := by decide +kernel
theorem dX11_findRecord_119 : decode cX11_findRecord 119 = .ok (.if_icmp .eq 16, 3) := by decide +kernel
theorem dX11_findRecord_122 : decode cX11_findRecord 122 = .ok (.aload_n 0, 1) := by decide +kernel
theorem dX11_findRecord_123 : decode cX11_findRecord 123 = .ok (.iload_n 3, 1) := by decide +kernel
theorem dX11_findRecord_124 : decode cX11_findRecord 124 = .ok (.iconst 4, 1) := by decide +kernel
theorem dX11_findRecord_125 : decode cX11_findRecord 125 = .ok (.invokevirtual 154, 3) := by decide +kernel
theorem dX11_findRecord_128 : decode cX11_findRecord 128 = .ok (.aload_n 0, 1) := by decide +kernel
theorem dX11_findRecord_129 : decode cX11_findRecord 129 = .ok (.getfield 276, 3) := by decide +kernel
theorem dX11_findRecord_132 : decode cX11_findRecord 132 = .ok (.if_icmp .le 24, 3) := by decide +kernel
theorem dX11_findRecord_135 : decode cX11_findRecord 135 = .ok (.aload_n 0, 1) := by decide +kernel
theorem dX11_findRecord_136 : decode cX11_findRecord 136 = .ok (.iload_n 2, 1) := by decide +kernel
theorem dX11_findRecord_137 : decode cX11_findRecord 137 = .ok (.putfield 273, 3) := by decide +kernel
theorem dX11_findRecord_140 : decode cX11_findRecord 140 = .ok (.aload_n 0, 1) := by decide +kernel
theorem dX11_findRecord_141 : decode cX11_findRecord 141 = .ok (.aload_n 0, 1) := by decide +kernel
theorem dX11_findRecord_142 : decode cX11_findRecord 142 = .ok (.iload_n 3, 1) := by decide +kernel
theorem dX11_findRecord_143 : decode cX11_findRecord 143 = .ok (.iconst 4, 1) := by decide +kernel
theorem dX11_findRecord_144 : decode cX11_findRecord 144 = .ok (.invokevirtual 154, 3) := by decide +kernel
theorem dX11_findRecord_147 : decode cX11_findRecord 147 = .ok (.putfield 276, 3) := by decide +kernel
theorem dX11_findRecord_150 : decode cX11_findRecord 150 = .ok (.aload_n 0, 1) := by decide +kernel
theorem dX11_findRecord_151 : decode cX11_findRecord 151 = .ok (.iload 4, 2) := by decide +kernel
theorem dX11_findRecord_153 : decode cX11_findRecord 153 = .ok (.putfield 279, 3) := by decide +kernel
theorem dX11_findRecord_156 : decode cX11_findRecord 156 = .ok (.iinc 2 1, 3) := by decide +kernel
theorem dX11_findRecord_159 : decode cX11_findRecord 159 = .ok (.goto (-139), 3) := by decide +kernel
theorem dX11_findRecord_162 : decode cX11_findRecord 162 = .ok (.return_, 1) := by decide +kernel
theorem dX11_takeTrusted_0 : decode cX11_takeTrusted 0 = .ok (.aload_n 0, 1) := by decide +kernel
theorem dX11_takeTrusted_1 : decode cX11_takeTrusted 1 = .ok (.iload_n 1, 1) := by decide +kernel
theorem dX11_takeTrusted_2 : decode cX11_takeTrusted 2 = .ok (.invokevirtual 286, 3) := by decide +kernel
theorem dX11_takeTrusted_5 : decode cX11_takeTrusted 5 = .ok (.aload_n 0, 1) := by decide +kernel
theorem dX11_takeTrusted_6 : decode cX11_takeTrusted 6 = .ok (.aload_n 0, 1) := by decide +kernel
theorem dX11_takeTrusted_7 : decode cX11_takeTrusted 7 = .ok (.getfield 279, 3) := by decide +kernel
theorem dX11_takeTrusted_10 : decode cX11_takeTrusted 10 = .ok (.putfield 217, 3) := by decide +kernel
theorem dX11_takeTrusted_13 : decode cX11_takeTrusted 13 = .ok (.iconst 0, 1) := by decide +kernel
theorem dX11_takeTrusted_14 : decode cX11_takeTrusted 14 = .ok (.istore_n 2, 1) := by decide +kernel
theorem dX11_takeTrusted_15 : decode cX11_takeTrusted 15 = .ok (.iload_n 2, 1) := by decide +kernel
theorem dX11_takeTrusted_16 : decode cX11_takeTrusted 16 = .ok (.aload_n 0, 1) := by decide +kernel
theorem dX11_takeTrusted_17 : decode cX11_takeTrusted 17 = .ok (.getfield 279, 3) := by decide +kernel
theorem dX11_takeTrusted_20 : decode cX11_takeTrusted 20 = .ok (.if_icmp .ge 33, 3) := by decide +kernel
theorem dX11_takeTrusted_23 : decode cX11_takeTrusted 23 = .ok (.aload_n 0, 1) := by decide +kernel
theorem dX11_takeTrusted_24 : decode cX11_takeTrusted 24 = .ok (.getfield 23, 3) := by decide +kernel
theorem dX11_takeTrusted_27 : decode cX11_takeTrusted 27 = .ok (.iload_n 2, 1) := by decide +kernel
theorem dX11_takeTrusted_28 : decode cX11_takeTrusted 28 = .ok (.aload_n 0, 1) := by decide +kernel
theorem dX11_takeTrusted_29 : decode cX11_takeTrusted 29 = .ok (.getfield 7, 3) := by decide +kernel
theorem dX11_takeTrusted_32 : decode cX11_takeTrusted 32 = .ok (.sipush 128, 3) := by decide +kernel
theorem dX11_takeTrusted_35 : decode cX11_takeTrusted 35 = .ok (.aload_n 0, 1) := by decide +kernel
theorem dX11_takeTrusted_36 : decode cX11_takeTrusted 36 = .ok (.getfield 273, 3) := by decide +kernel
theorem dX11_takeTrusted_39 : decode cX11_takeTrusted 39 = .ok (.imul, 1) := by decide +kernel
theorem dX11_takeTrusted_40 : decode cX11_takeTrusted 40 = .ok (.bipush 6, 2) := by decide +kernel
theorem dX11_takeTrusted_42 : decode cX11_takeTrusted 42 = .ok (.iadd, 1) := by decide +kernel
theorem dX11_takeTrusted_43 : decode cX11_takeTrusted 43 = .ok (.iload_n 2, 1) := by decide +kernel
theorem dX11_takeTrusted_44 : decode cX11_takeTrusted 44 = .ok (.iadd, 1) := by decide +kernel
theorem dX11_takeTrusted_45 : decode cX11_takeTrusted 45 = .ok (.iaload, 1) := by decide +kernel
theorem dX11_takeTrusted_46 : decode cX11_takeTrusted 46 = .ok (.iastore, 1) := by decide +kernel
theorem dX11_takeTrusted_47 : decode cX11_takeTrusted 47 = .ok (.iinc 2 1, 3) := by decide +kernel
theorem dX11_takeTrusted_50 : decode cX11_takeTrusted 50 = .ok (.goto (-35), 3) := by decide +kernel
theorem dX11_takeTrusted_53 : decode cX11_takeTrusted 53 = .ok (.aload_n 0, 1) := by decide +kernel
theorem dX11_takeTrusted_54 : decode cX11_takeTrusted 54 = .ok (.getfield 279, 3) := by decide +kernel
theorem dX11_takeTrusted_57 : decode cX11_takeTrusted 57 = .ok (.ifCond .le 8, 3) := by decide +kernel
theorem dX11_takeTrusted_60 : decode cX11_takeTrusted 60 = .ok (.aload_n 0, 1) := by decide +kernel
theorem dX11_takeTrusted_61 : decode cX11_takeTrusted 61 = .ok (.invokevirtual 270, 3) := by decide +kernel
theorem dX11_takeTrusted_64 : decode cX11_takeTrusted 64 = .ok (.ireturn, 1) := by decide +kernel
theorem dX11_takeTrusted_65 : decode cX11_takeTrusted 65 = .ok (.iload_n 1, 1) := by decide +kernel
theorem dX11_takeTrusted_66 : decode cX11_takeTrusted 66 = .ok (.ifCond .ne 12, 3) := by decide +kernel
theorem dX11_takeTrusted_69 : decode cX11_takeTrusted 69 = .ok (.aload_n 0, 1) := by decide +kernel
theorem dX11_takeTrusted_70 : decode cX11_takeTrusted 70 = .ok (.getfield 273, 3) := by decide +kernel
theorem dX11_takeTrusted_73 : decode cX11_takeTrusted 73 = .ok (.bipush (-2), 2) := by decide +kernel
theorem dX11_takeTrusted_75 : decode cX11_takeTrusted 75 = .ok (.if_icmp .eq 5, 3) := by decide +kernel
theorem dX11_takeTrusted_78 : decode cX11_takeTrusted 78 = .ok (.iconst 0, 1) := by decide +kernel
theorem dX11_takeTrusted_79 : decode cX11_takeTrusted 79 = .ok (.ireturn, 1) := by decide +kernel
theorem dX11_takeTrusted_80 : decode cX11_takeTrusted 80 = .ok (.aload_n 0, 1) := by decide +kernel
theorem dX11_takeTrusted_81 : decode cX11_takeTrusted 81 = .ok (.iconst 0, 1) := by decide +kernel
theorem dX11_takeTrusted_82 : decode cX11_takeTrusted 82 = .ok (.putfield 220, 3) := by decide +kernel
theorem dX11_takeTrusted_85 : decode cX11_takeTrusted 85 = .ok (.aload_n 0, 1) := by decide +kernel
theorem dX11_takeTrusted_86 : decode cX11_takeTrusted 86 = .ok (.iconst 1, 1) := by decide +kernel
theorem dX11_takeTrusted_87 : decode cX11_takeTrusted 87 = .ok (.putfield 235, 3) := by decide +kernel
theorem dX11_takeTrusted_90 : decode cX11_takeTrusted 90 = .ok (.aload_n 0, 1) := by decide +kernel
theorem dX11_takeTrusted_91 : decode cX11_takeTrusted 91 = .ok (.ldc2_w 289, 3) := by decide +kernel
theorem dX11_takeTrusted_94 : decode cX11_takeTrusted 94 = .ok (.putfield 238, 3) := by decide +kernel
theorem dX11_takeTrusted_97 : decode cX11_takeTrusted 97 = .ok (.aload_n 0, 1) := by decide +kernel
theorem dX11_takeTrusted_98 : decode cX11_takeTrusted 98 = .ok (.iconst 0, 1) := by decide +kernel
theorem dX11_takeTrusted_99 : decode cX11_takeTrusted 99 = .ok (.putfield 232, 3) := by decide +kernel
theorem dX11_takeTrusted_102 : decode cX11_takeTrusted 102 = .ok (.iconst 0, 1) := by decide +kernel
theorem dX11_takeTrusted_103 : decode cX11_takeTrusted 103 = .ok (.istore_n 2, 1) := by decide +kernel
theorem dX11_takeTrusted_104 : decode cX11_takeTrusted 104 = .ok (.iload_n 2, 1) := by decide +kernel
theorem dX11_takeTrusted_105 : decode cX11_takeTrusted 105 = .ok (.iconst 4, 1) := by decide +kernel
theorem dX11_takeTrusted_106 : decode cX11_takeTrusted 106 = .ok (.if_icmp .ge 67, 3) := by decide +kernel
theorem dX11_takeTrusted_109 : decode cX11_takeTrusted 109 = .ok (.aload_n 0, 1) := by decide +kernel
theorem dX11_takeTrusted_110 : decode cX11_takeTrusted 110 = .ok (.getfield 26, 3) := by decide +kernel
theorem dX11_takeTrusted_113 : decode cX11_takeTrusted 113 = .ok (.iload_n 2, 1) := by decide +kernel
theorem dX11_takeTrusted_114 : decode cX11_takeTrusted 114 = .ok (.iload_n 2, 1) := by decide +kernel
theorem dX11_takeTrusted_115 : decode cX11_takeTrusted 115 = .ok (.ifCond .ne 8, 3) := by decide +kernel
theorem dX11_takeTrusted_118 : decode cX11_takeTrusted 118 = .ok (.bipush 7, 2) := by decide +kernel
theorem dX11_takeTrusted_120 : decode cX11_takeTrusted 120 = .ok (.goto 25, 3) := by decide +kernel
theorem dX11_takeTrusted_123 : decode cX11_takeTrusted 123 = .ok (.iload_n 2, 1) := by decide +kernel
theorem dX11_takeTrusted_124 : decode cX11_takeTrusted 124 = .ok (.iconst 1, 1) := by decide +kernel
theorem dX11_takeTrusted_125 : decode cX11_takeTrusted 125 = .ok (.if_icmp .ne 8, 3) := by decide +kernel
theorem dX11_takeTrusted_128 : decode cX11_takeTrusted 128 = .ok (.bipush 8, 2) := by decide +kernel
theorem dX11_takeTrusted_130 : decode cX11_takeTrusted 130 = .ok (.goto 15, 3) := by decide +kernel
theorem dX11_takeTrusted_133 : decode cX11_takeTrusted 133 = .ok (.iload_n 2, 1) := by decide +kernel
theorem dX11_takeTrusted_134 : decode cX11_takeTrusted 134 = .ok (.iconst 2, 1) := by decide +kernel
theorem dX11_takeTrusted_135 : decode cX11_takeTrusted 135 = .ok (.if_icmp .ne 8, 3) := by decide +kernel
theorem dX11_takeTrusted_138 : decode cX11_takeTrusted 138 = .ok (.bipush 16, 2) := by decide +kernel
theorem dX11_takeTrusted_140 : decode cX11_takeTrusted 140 = .ok (.goto 5, 3) := by decide +kernel
theorem dX11_takeTrusted_143 : decode cX11_takeTrusted 143 = .ok (.bipush 96, 2) := by decide +kernel
theorem dX11_takeTrusted_145 : decode cX11_takeTrusted 145 = .ok (.iastore, 1) := by decide +kernel
theorem dX11_takeTrusted_146 : decode cX11_takeTrusted 146 = .ok (.aload_n 0, 1) := by decide +kernel
theorem dX11_takeTrusted_147 : decode cX11_takeTrusted 147 = .ok (.getfield 29, 3) := by decide +kernel
theorem dX11_takeTrusted_150 : decode cX11_takeTrusted 150 = .ok (.iload_n 2, 1) := by decide +kernel
theorem dX11_takeTrusted_151 : decode cX11_takeTrusted 151 = .ok (.iload_n 2, 1) := by decide +kernel
theorem dX11_takeTrusted_152 : decode cX11_takeTrusted 152 = .ok (.iconst 1, 1) := by decide +kernel
theorem dX11_takeTrusted_153 : decode cX11_takeTrusted 153 = .ok (.if_icmp .eq 8, 3) := by decide +kernel
theorem dX11_takeTrusted_156 : decode cX11_takeTrusted 156 = .ok (.iload_n 2, 1) := by decide +kernel
theorem dX11_takeTrusted_157 : decode cX11_takeTrusted 157 = .ok (.iconst 2, 1) := by decide +kernel
theorem dX11_takeTrusted_158 : decode cX11_takeTrusted 158 = .ok (.if_icmp .ne 7, 3) := by decide +kernel
theorem dX11_takeTrusted_161 : decode cX11_takeTrusted 161 = .ok (.iconst 1, 1) := by decide +kernel
theorem dX11_takeTrusted_162 : decode cX11_takeTrusted 162 = .ok (.goto 4, 3) := by decide +kernel
theorem dX11_takeTrusted_165 : decode cX11_takeTrusted 165 = .ok (.iconst 2, 1) := by decide +kernel
theorem dX11_takeTrusted_166 : decode cX11_takeTrusted 166 = .ok (.iastore, 1) := by decide +kernel
theorem dX11_takeTrusted_167 : decode cX11_takeTrusted 167 = .ok (.iinc 2 1, 3) := by decide +kernel
theorem dX11_takeTrusted_170 : decode cX11_takeTrusted 170 = .ok (.goto (-66), 3) := by decide +kernel
theorem dX11_takeTrusted_173 : decode cX11_takeTrusted 173 = .ok (.iconst 1, 1) := by decide +kernel
theorem dX11_takeTrusted_174 : decode cX11_takeTrusted 174 = .ok (.ireturn, 1) := by decide +kernel
theorem dX11_keepRecord_0 : decode cX11_keepRecord 0 = .ok (.aload_n 0, 1) := by decide +kernel
theorem dX11_keepRecord_1 : decode cX11_keepRecord 1 = .ok (.iload_n 1, 1) := by decide +kernel
theorem dX11_keepRecord_2 : decode cX11_keepRecord 2 = .ok (.invokevirtual 286, 3) := by decide +kernel
theorem dX11_keepRecord_5 : decode cX11_keepRecord 5 = .ok (.aload_n 0, 1) := by decide +kernel
theorem dX11_keepRecord_6 : decode cX11_keepRecord 6 = .ok (.getfield 273, 3) := by decide +kernel
theorem dX11_keepRecord_9 : decode cX11_keepRecord 9 = .ok (.bipush (-2), 2) := by decide +kernel
theorem dX11_keepRecord_11 : decode cX11_keepRecord 11 = .ok (.if_icmp .ne 9, 3) := by decide +kernel
theorem dX11_keepRecord_14 : decode cX11_keepRecord 14 = .ok (.iconst 2, 1) := by decide +kernel
theorem dX11_keepRecord_15 : decode cX11_keepRecord 15 = .ok (.iload_n 1, 1) := by decide +kernel
theorem dX11_keepRecord_16 : decode cX11_keepRecord 16 = .ok (.imul, 1) := by decide +kernel
theorem dX11_keepRecord_17 : decode cX11_keepRecord 17 = .ok (.goto 13, 3) := by decide +kernel
theorem dX11_keepRecord_20 : decode cX11_keepRecord 20 = .ok (.iconst 4, 1) := by decide +kernel
theorem dX11_keepRecord_21 : decode cX11_keepRecord 21 = .ok (.iload_n 1, 1) := by decide +kernel
theorem dX11_keepRecord_22 : decode cX11_keepRecord 22 = .ok (.imul, 1) := by decide +kernel
theorem dX11_keepRecord_23 : decode cX11_keepRecord 23 = .ok (.iconst 1, 1) := by decide +kernel
theorem dX11_keepRecord_24 : decode cX11_keepRecord 24 = .ok (.iadd, 1) := by decide +kernel
theorem dX11_keepRecord_25 : decode cX11_keepRecord 25 = .ok (.aload_n 0, 1) := by decide +kernel
theorem dX11_keepRecord_26 : decode cX11_keepRecord 26 = .ok (.getfield 273, 3) := by decide +kernel
theorem dX11_keepRecord_29 : decode cX11_keepRecord 29 = .ok (.isub, 1) := by decide +kernel
theorem dX11_keepRecord_30 : decode cX11_keepRecord 30 = .ok (.istore_n 3, 1) := by decide +kernel
theorem dX11_keepRecord_31 : decode cX11_keepRecord 31 = .ok (.aload_n 0, 1) := by decide +kernel
theorem dX11_keepRecord_32 : decode cX11_keepRecord 32 = .ok (.getfield 276, 3) := by decide +kernel
theorem dX11_keepRecord_35 : decode cX11_keepRecord 35 = .ok (.iconst 1, 1) := by decide +kernel
theorem dX11_keepRecord_36 : decode cX11_keepRecord 36 = .ok (.iadd, 1) := by decide +kernel
theorem dX11_keepRecord_37 : decode cX11_keepRecord 37 = .ok (.istore 4, 2) := by decide +kernel
theorem dX11_keepRecord_39 : decode cX11_keepRecord 39 = .ok (.iconst 0, 1) := by decide +kernel
theorem dX11_keepRecord_40 : decode cX11_keepRecord 40 = .ok (.istore 5, 2) := by decide +kernel
theorem dX11_keepRecord_42 : decode cX11_keepRecord 42 = .ok (.iload 5, 2) := by decide +kernel
theorem dX11_keepRecord_44 : decode cX11_keepRecord 44 = .ok (.iconst 4, 1) := by decide +kernel
theorem dX11_keepRecord_45 : decode cX11_keepRecord 45 = .ok (.if_icmp .ge 31, 3) := by decide +kernel
theorem dX11_keepRecord_48 : decode cX11_keepRecord 48 = .ok (.aload_n 0, 1) := by decide +kernel
theorem dX11_keepRecord_49 : decode cX11_keepRecord 49 = .ok (.getfield 48, 3) := by decide +kernel
theorem dX11_keepRecord_52 : decode cX11_keepRecord 52 = .ok (.iload 5, 2) := by decide +kernel
theorem dX11_keepRecord_54 : decode cX11_keepRecord 54 = .ok (.iload 4, 2) := by decide +kernel
theorem dX11_keepRecord_56 : decode cX11_keepRecord 56 = .ok (.bipush 24, 2) := by decide +kernel
theorem dX11_keepRecord_58 : decode cX11_keepRecord 58 = .ok (.bipush 8, 2) := by decide +kernel
theorem dX11_keepRecord_60 : decode cX11_keepRecord 60 = .ok (.iload 5, 2) := by decide +kernel
theorem dX11_keepRecord_62 : decode cX11_keepRecord 62 = .ok (.imul, 1) := by decide +kernel
theorem dX11_keepRecord_63 : decode cX11_keepRecord 63 = .ok (.isub, 1) := by decide +kernel
theorem dX11_keepRecord_64 : decode cX11_keepRecord 64 = .ok (.ishr, 1) := by decide +kernel
theorem dX11_keepRecord_65 : decode cX11_keepRecord 65 = .ok (.sipush 255, 3) := by decide +kernel
theorem dX11_keepRecord_68 : decode cX11_keepRecord 68 = .ok (.iand, 1) := by decide +kernel
theorem dX11_keepRecord_69 : decode cX11_keepRecord 69 = .ok (.iastore, 1) := by decide +kernel
theorem dX11_keepRecord_70 : decode cX11_keepRecord 70 = .ok (.iinc 5 1, 3) := by decide +kernel
theorem dX11_keepRecord_73 : decode cX11_keepRecord 73 = .ok (.goto (-31), 3) := by decide +kernel
theorem dX11_keepRecord_76 : decode cX11_keepRecord 76 = .ok (.aload_n 0, 1) := by decide +kernel
theorem dX11_keepRecord_77 : decode cX11_keepRecord 77 = .ok (.getfield 48, 3) := by decide +kernel
theorem dX11_keepRecord_80 : decode cX11_keepRecord 80 = .ok (.iconst 4, 1) := by decide +kernel
theorem dX11_keepRecord_81 : decode cX11_keepRecord 81 = .ok (.iload_n 2, 1) := by decide +kernel
theorem dX11_keepRecord_82 : decode cX11_keepRecord 82 = .ok (.bipush 8, 2) := by decide +kernel
theorem dX11_keepRecord_84 : decode cX11_keepRecord 84 = .ok (.ishr, 1) := by decide +kernel
theorem dX11_keepRecord_85 : decode cX11_keepRecord 85 = .ok (.iastore, 1) := by decide +kernel
theorem dX11_keepRecord_86 : decode cX11_keepRecord 86 = .ok (.aload_n 0, 1) := by decide +kernel
theorem dX11_keepRecord_87 : decode cX11_keepRecord 87 = .ok (.getfield 48, 3) := by decide +kernel
theorem dX11_keepRecord_90 : decode cX11_keepRecord 90 = .ok (.iconst 5, 1) := by decide +kernel
theorem dX11_keepRecord_91 : decode cX11_keepRecord 91 = .ok (.iload_n 2, 1) := by decide +kernel
theorem dX11_keepRecord_92 : decode cX11_keepRecord 92 = .ok (.sipush 255, 3) := by decide +kernel
theorem dX11_keepRecord_95 : decode cX11_keepRecord 95 = .ok (.iand, 1) := by decide +kernel
theorem dX11_keepRecord_96 : decode cX11_keepRecord 96 = .ok (.iastore, 1) := by decide +kernel
theorem dX11_keepRecord_97 : decode cX11_keepRecord 97 = .ok (.aload_n 0, 1) := by decide +kernel
theorem dX11_keepRecord_98 : decode cX11_keepRecord 98 = .ok (.invokevirtual 113, 3) := by decide +kernel
theorem dX11_keepRecord_101 : decode cX11_keepRecord 101 = .ok (.iconst 0, 1) := by decide +kernel
theorem dX11_keepRecord_102 : decode cX11_keepRecord 102 = .ok (.istore 5, 2) := by decide +kernel
theorem dX11_keepRecord_104 : decode cX11_keepRecord 104 = .ok (.iload 5, 2) := by decide +kernel
theorem dX11_keepRecord_106 : decode cX11_keepRecord 106 = .ok (.bipush 6, 2) := by decide +kernel
theorem dX11_keepRecord_108 : decode cX11_keepRecord 108 = .ok (.iload_n 2, 1) := by decide +kernel
theorem dX11_keepRecord_109 : decode cX11_keepRecord 109 = .ok (.iadd, 1) := by decide +kernel
theorem dX11_keepRecord_110 : decode cX11_keepRecord 110 = .ok (.if_icmp .ge 20, 3) := by decide +kernel
theorem dX11_keepRecord_113 : decode cX11_keepRecord 113 = .ok (.aload_n 0, 1) := by decide +kernel
theorem dX11_keepRecord_114 : decode cX11_keepRecord 114 = .ok (.aload_n 0, 1) := by decide +kernel
theorem dX11_keepRecord_115 : decode cX11_keepRecord 115 = .ok (.getfield 48, 3) := by decide +kernel
theorem dX11_keepRecord_118 : decode cX11_keepRecord 118 = .ok (.iload 5, 2) := by decide +kernel
theorem dX11_keepRecord_120 : decode cX11_keepRecord 120 = .ok (.iaload, 1) := by decide +kernel
theorem dX11_keepRecord_121 : decode cX11_keepRecord 121 = .ok (.invokevirtual 116, 3) := by decide +kernel
theorem dX11_keepRecord_124 : decode cX11_keepRecord 124 = .ok (.iinc 5 1, 3) := by decide +kernel
theorem dX11_keepRecord_127 : decode cX11_keepRecord 127 = .ok (.goto (-23), 3) := by decide +kernel
theorem dX11_keepRecord_130 : decode cX11_keepRecord 130 = .ok (.aload_n 0, 1) := by decide +kernel
theorem dX11_keepRecord_131 : decode cX11_keepRecord 131 = .ok (.invokevirtual 150, 3) := by decide +kernel
theorem dX11_keepRecord_134 : decode cX11_keepRecord 134 = .ok (.istore 5, 2) := by decide +kernel
theorem dX11_keepRecord_136 : decode cX11_keepRecord 136 = .ok (.iconst 0, 1) := by decide +kernel
theorem dX11_keepRecord_137 : decode cX11_keepRecord 137 = .ok (.istore 6, 2) := by decide +kernel
theorem dX11_keepRecord_139 : decode cX11_keepRecord 139 = .ok (.iload 6, 2) := by decide +kernel
theorem dX11_keepRecord_141 : decode cX11_keepRecord 141 = .ok (.iconst 4, 1) := by decide +kernel
theorem dX11_keepRecord_142 : decode cX11_keepRecord 142 = .ok (.if_icmp .ge 36, 3) := by decide +kernel
theorem dX11_keepRecord_145 : decode cX11_keepRecord 145 = .ok (.aload_n 0, 1) := by decide +kernel
theorem dX11_keepRecord_146 : decode cX11_keepRecord 146 = .ok (.getfield 48, 3) := by decide +kernel
theorem dX11_keepRecord_149 : decode cX11_keepRecord 149 = .ok (.bipush 6, 2) := by decide +kernel
theorem dX11_keepRecord_151 : decode cX11_keepRecord 151 = .ok (.iload_n 2, 1) := by decide +kernel
theorem dX11_keepRecord_152 : decode cX11_keepRecord 152 = .ok (.iadd, 1) := by decide +kernel
theorem dX11_keepRecord_153 : decode cX11_keepRecord 153 = .ok (.iload 6, 2) := by decide +kernel
theorem dX11_keepRecord_155 : decode cX11_keepRecord 155 = .ok (.iadd, 1) := by decide +kernel
theorem dX11_keepRecord_156 : decode cX11_keepRecord 156 = .ok (.iload 5, 2) := by decide +kernel
theorem dX11_keepRecord_158 : decode cX11_keepRecord 158 = .ok (.bipush 24, 2) := by decide +kernel
theorem dX11_keepRecord_160 : decode cX11_keepRecord 160 = .ok (.bipush 8, 2) := by decide +kernel
theorem dX11_keepRecord_162 : decode cX11_keepRecord 162 = .ok (.iload 6, 2) := by decide +kernel
theorem dX11_keepRecord_164 : decode cX11_keepRecord 164 = .ok (.imul, 1) := by decide +kernel
theorem dX11_keepRecord_165 : decode cX11_keepRecord 165 = .ok (.isub, 1) := by decide +kernel
theorem dX11_keepRecord_166 : decode cX11_keepRecord 166 = .ok (.ishr, 1) := by decide +kernel
theorem dX11_keepRecord_167 : decode cX11_keepRecord 167 = .ok (.sipush 255, 3) := by decide +kernel
theorem dX11_keepRecord_170 : decode cX11_keepRecord 170 = .ok (.iand, 1) := by decide +kernel
theorem dX11_keepRecord_171 : decode cX11_keepRecord 171 = .ok (.iastore, 1) := by decide +kernel
theorem dX11_keepRecord_172 : decode cX11_keepRecord 172 = .ok (.iinc 6 1, 3) := by decide +kernel
theorem dX11_keepRecord_175 : decode cX11_keepRecord 175 = .ok (.goto (-36), 3) := by decide +kernel
theorem dX11_keepRecord_178 : decode cX11_keepRecord 178 = .ok (.bipush 10, 2) := by decide +kernel
theorem dX11_keepRecord_180 : decode cX11_keepRecord 180 = .ok (.iload_n 2, 1) := by decide +kernel
theorem dX11_keepRecord_181 : decode cX11_keepRecord 181 = .ok (.iadd, 1) := by decide +kernel
theorem dX11_keepRecord_182 : decode cX11_keepRecord 182 = .ok (.istore 6, 2) := by decide +kernel
theorem dX11_keepRecord_184 : decode cX11_keepRecord 184 = .ok (.aload_n 0, 1) := by decide +kernel
theorem dX11_keepRecord_185 : decode cX11_keepRecord 185 = .ok (.iload_n 3, 1) := by decide +kernel
theorem dX11_keepRecord_186 : decode cX11_keepRecord 186 = .ok (.invokevirtual 206, 3) := by decide +kernel
theorem dX11_keepRecord_189 : decode cX11_keepRecord 189 = .ok (.iconst 0, 1) := by decide +kernel
theorem dX11_keepRecord_190 : decode cX11_keepRecord 190 = .ok (.istore 7, 2) := by decide +kernel
theorem dX11_keepRecord_192 : decode cX11_keepRecord 192 = .ok (.iload 7, 2) := by decide +kernel
theorem dX11_keepRecord_194 : decode cX11_keepRecord 194 = .ok (.iload 6, 2) := by decide +kernel
theorem dX11_keepRecord_196 : decode cX11_keepRecord 196 = .ok (.if_icmp .ge 70, 3) := by decide +kernel
theorem dX11_keepRecord_199 : decode cX11_keepRecord 199 = .ok (.iconst 0, 1) := by decide +kernel
theorem dX11_keepRecord_200 : decode cX11_keepRecord 200 = .ok (.istore 8, 2) := by decide +kernel
theorem dX11_keepRecord_202 : decode cX11_keepRecord 202 = .ok (.iload 8, 2) := by decide +kernel
theorem dX11_keepRecord_204 : decode cX11_keepRecord 204 = .ok (.bipush 32, 2) := by decide +kernel
theorem dX11_keepRecord_206 : decode cX11_keepRecord 206 = .ok (.if_icmp .ge 42, 3) := by decide +kernel
theorem dX11_keepRecord_209 : decode cX11_keepRecord 209 = .ok (.aload_n 0, 1) := by decide +kernel
theorem dX11_keepRecord_210 : decode cX11_keepRecord 210 = .ok (.getfield 20, 3) := by decide +kernel
theorem dX11_keepRecord_213 : decode cX11_keepRecord 213 = .ok (.iload 8, 2) := by decide +kernel
theorem dX11_keepRecord_215 : decode cX11_keepRecord 215 = .ok (.iload 7, 2) := by decide +kernel
theorem dX11_keepRecord_217 : decode cX11_keepRecord 217 = .ok (.iload 8, 2) := by decide +kernel
theorem dX11_keepRecord_219 : decode cX11_keepRecord 219 = .ok (.iadd, 1) := by decide +kernel
theorem dX11_keepRecord_220 : decode cX11_keepRecord 220 = .ok (.iload 6, 2) := by decide +kernel
theorem dX11_keepRecord_222 : decode cX11_keepRecord 222 = .ok (.if_icmp .ge 16, 3) := by decide +kernel
theorem dX11_keepRecord_225 : decode cX11_keepRecord 225 = .ok (.aload_n 0, 1) := by decide +kernel
theorem dX11_keepRecord_226 : decode cX11_keepRecord 226 = .ok (.getfield 48, 3) := by decide +kernel
theorem dX11_keepRecord_229 : decode cX11_keepRecord 229 = .ok (.iload 7, 2) := by decide +kernel
theorem dX11_keepRecord_231 : decode cX11_keepRecord 231 = .ok (.iload 8, 2) := by decide +kernel
theorem dX11_keepRecord_233 : decode cX11_keepRecord 233 = .ok (.iadd, 1) := by decide +kernel
theorem dX11_keepRecord_234 : decode cX11_keepRecord 234 = .ok (.iaload, 1) := by decide +kernel
theorem dX11_keepRecord_235 : decode cX11_keepRecord 235 = .ok (.goto 6, 3) := by decide +kernel
theorem dX11_keepRecord_238 : decode cX11_keepRecord 238 = .ok (.sipush 255, 3) := by decide +kernel
theorem dX11_keepRecord_241 : decode cX11_keepRecord 241 = .ok (.iastore, 1) := by decide +kernel
theorem dX11_keepRecord_242 : decode cX11_keepRecord 242 = .ok (.iinc 8 1, 3) := by decide +kernel
theorem dX11_keepRecord_245 : decode cX11_keepRecord 245 = .ok (.goto (-43), 3) := by decide +kernel
theorem dX11_keepRecord_248 : decode cX11_keepRecord 248 = .ok (.aload_n 0, 1) := by decide +kernel
theorem dX11_keepRecord_249 : decode cX11_keepRecord 249 = .ok (.sipush 128, 3) := by decide +kernel
theorem dX11_keepRecord_252 : decode cX11_keepRecord 252 = .ok (.iload_n 3, 1) := by decide +kernel
theorem dX11_keepRecord_253 : decode cX11_keepRecord 253 = .ok (.imul, 1) := by decide +kernel
theorem dX11_keepRecord_254 : decode cX11_keepRecord 254 = .ok (.iload 7, 2) := by decide +kernel
theorem dX11_keepRecord_256 : decode cX11_keepRecord 256 = .ok (.iadd, 1) := by decide +kernel
theorem dX11_keepRecord_257 : decode cX11_keepRecord 257 = .ok (.invokevirtual 209, 3) := by decide +kernel
theorem dX11_keepRecord_260 : decode cX11_keepRecord 260 = .ok (.iinc 7 32, 3) := by decide +kernel
theorem dX11_keepRecord_263 : decode cX11_keepRecord 263 = .ok (.goto (-71), 3) := by decide +kernel
theorem dX11_keepRecord_266 : decode cX11_keepRecord 266 = .ok (.return_, 1) := by decide +kernel
theorem dX11_keepDoc_0 : decode cX11_keepDoc 0 = .ok (.iconst 0, 1) := by decide +kernel
theorem dX11_keepDoc_1 : decode cX11_keepDoc 1 = .ok (.istore_n 1, 1) := by decide +kernel
theorem dX11_keepDoc_2 : decode cX11_keepDoc 2 = .ok (.iload_n 1, 1) := by decide +kernel
theorem dX11_keepDoc_3 : decode cX11_keepDoc 3 = .ok (.aload_n 0, 1) := by decide +kernel
theorem dX11_keepDoc_4 : decode cX11_keepDoc 4 = .ok (.getfield 217, 3) := by decide +kernel
theorem dX11_keepDoc_7 : decode cX11_keepDoc 7 = .ok (.if_icmp .ge 24, 3) := by decide +kernel
theorem dX11_keepDoc_10 : decode cX11_keepDoc 10 = .ok (.aload_n 0, 1) := by decide +kernel
theorem dX11_keepDoc_11 : decode cX11_keepDoc 11 = .ok (.getfield 48, 3) := by decide +kernel
theorem dX11_keepDoc_14 : decode cX11_keepDoc 14 = .ok (.bipush 6, 2) := by decide +kernel
theorem dX11_keepDoc_16 : decode cX11_keepDoc 16 = .ok (.iload_n 1, 1) := by decide +kernel
theorem dX11_keepDoc_17 : decode cX11_keepDoc 17 = .ok (.iadd, 1) := by decide +kernel
theorem dX11_keepDoc_18 : decode cX11_keepDoc 18 = .ok (.aload_n 0, 1) := by decide +kernel
theorem dX11_keepDoc_19 : decode cX11_keepDoc 19 = .ok (.getfield 23, 3) := by decide +kernel
theorem dX11_keepDoc_22 : decode cX11_keepDoc 22 = .ok (.iload_n 1, 1) := by decide +kernel
theorem dX11_keepDoc_23 : decode cX11_keepDoc 23 = .ok (.iaload, 1) := by decide +kernel
theorem dX11_keepDoc_24 : decode cX11_keepDoc 24 = .ok (.iastore, 1) := by decide +kernel
theorem dX11_keepDoc_25 : decode cX11_keepDoc 25 = .ok (.iinc 1 1, 3) := by decide +kernel
theorem dX11_keepDoc_28 : decode cX11_keepDoc 28 = .ok (.goto (-26), 3) := by decide +kernel
theorem dX11_keepDoc_31 : decode cX11_keepDoc 31 = .ok (.aload_n 0, 1) := by decide +kernel
theorem dX11_keepDoc_32 : decode cX11_keepDoc 32 = .ok (.aload_n 0, 1) := by decide +kernel
theorem dX11_keepDoc_33 : decode cX11_keepDoc 33 = .ok (.getfield 220, 3) := by decide +kernel
theorem dX11_keepDoc_36 : decode cX11_keepDoc 36 = .ok (.aload_n 0, 1) := by decide +kernel
theorem dX11_keepDoc_37 : decode cX11_keepDoc 37 = .ok (.getfield 217, 3) := by decide +kernel
theorem dX11_keepDoc_40 : decode cX11_keepDoc 40 = .ok (.invokevirtual 291, 3) := by decide +kernel
theorem dX11_keepDoc_43 : decode cX11_keepDoc 43 = .ok (.return_, 1) := by decide +kernel
theorem dX11_takeCame_0 : decode cX11_takeCame 0 = .ok (.aload_n 0, 1) := by decide +kernel
theorem dX11_takeCame_1 : decode cX11_takeCame 1 = .ok (.aload_n 0, 1) := by decide +kernel
theorem dX11_takeCame_2 : decode cX11_takeCame 2 = .ok (.getfield 295, 3) := by decide +kernel
theorem dX11_takeCame_5 : decode cX11_takeCame 5 = .ok (.putfield 217, 3) := by decide +kernel
theorem dX11_takeCame_8 : decode cX11_takeCame 8 = .ok (.iconst 0, 1) := by decide +kernel
theorem dX11_takeCame_9 : decode cX11_takeCame 9 = .ok (.istore_n 1, 1) := by decide +kernel
theorem dX11_takeCame_10 : decode cX11_takeCame 10 = .ok (.iload_n 1, 1) := by decide +kernel
theorem dX11_takeCame_11 : decode cX11_takeCame 11 = .ok (.aload_n 0, 1) := by decide +kernel
theorem dX11_takeCame_12 : decode cX11_takeCame 12 = .ok (.getfield 295, 3) := by decide +kernel
theorem dX11_takeCame_15 : decode cX11_takeCame 15 = .ok (.if_icmp .ge 21, 3) := by decide +kernel
theorem dX11_takeCame_18 : decode cX11_takeCame 18 = .ok (.aload_n 0, 1) := by decide +kernel
theorem dX11_takeCame_19 : decode cX11_takeCame 19 = .ok (.getfield 23, 3) := by decide +kernel
theorem dX11_takeCame_22 : decode cX11_takeCame 22 = .ok (.iload_n 1, 1) := by decide +kernel
theorem dX11_takeCame_23 : decode cX11_takeCame 23 = .ok (.aload_n 0, 1) := by decide +kernel
theorem dX11_takeCame_24 : decode cX11_takeCame 24 = .ok (.getfield 51, 3) := by decide +kernel
theorem dX11_takeCame_27 : decode cX11_takeCame 27 = .ok (.iload_n 1, 1) := by decide +kernel
theorem dX11_takeCame_28 : decode cX11_takeCame 28 = .ok (.iaload, 1) := by decide +kernel
theorem dX11_takeCame_29 : decode cX11_takeCame 29 = .ok (.iastore, 1) := by decide +kernel
theorem dX11_takeCame_30 : decode cX11_takeCame 30 = .ok (.iinc 1 1, 3) := by decide +kernel
theorem dX11_takeCame_33 : decode cX11_takeCame 33 = .ok (.goto (-23), 3) := by decide +kernel
theorem dX11_takeCame_36 : decode cX11_takeCame 36 = .ok (.aload_n 0, 1) := by decide +kernel
theorem dX11_takeCame_37 : decode cX11_takeCame 37 = .ok (.invokevirtual 270, 3) := by decide +kernel
theorem dX11_takeCame_40 : decode cX11_takeCame 40 = .ok (.istore_n 1, 1) := by decide +kernel
theorem dX11_takeCame_41 : decode cX11_takeCame 41 = .ok (.return_, 1) := by decide +kernel
theorem dX11_fail_0 : decode cX11_fail 0 = .ok (.aload_n 0, 1) := by decide +kernel
theorem dX11_fail_1 : decode cX11_fail 1 = .ok (.iconst 0, 1) := by decide +kernel
theorem dX11_fail_2 : decode cX11_fail 2 = .ok (.putfield 134, 3) := by decide +kernel
theorem dX11_fail_5 : decode cX11_fail 5 = .ok (.aload_n 0, 1) := by decide +kernel
theorem dX11_fail_6 : decode cX11_fail 6 = .ok (.iload_n 1, 1) := by decide +kernel
theorem dX11_fail_7 : decode cX11_fail 7 = .ok (.putfield 298, 3) := by decide +kernel
theorem dX11_fail_10 : decode cX11_fail 10 = .ok (.bipush (-10), 2) := by decide +kernel
theorem dX11_fail_12 : decode cX11_fail 12 = .ok (.iload_n 1, 1) := by decide +kernel
