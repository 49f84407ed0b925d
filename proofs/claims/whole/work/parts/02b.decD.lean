theorem dX10_init_0 : decode cX10_init 0 = .ok (.aload_n 0, 1) := by decide +kernel
theorem dX10_init_1 : decode cX10_init 1 = .ok (.invokespecial 3, 3) := by decide +kernel
theorem dX10_init_4 : decode cX10_init 4 = .ok (.aload_n 0, 1) := by decide +kernel
theorem dX10_init_5 : decode cX10_init 5 = .ok (.new 9, 3) := by decide +kernel
theorem dX10_init_8 : decode cX10_init 8 = .ok (.dup, 1) := by decide +kernel
theorem dX10_init_9 : decode cX10_init 9 = .ok (.sipush 300, 3) := by decide +kernel
theorem dX10_init_12 : decode cX10_init 12 = .ok (.invokespecial 11, 3) := by decide +kernel
theorem dX10_init_15 : decode cX10_init 15 = .ok (.putfield 14, 3) := by decide +kernel
theorem dX10_init_18 : decode cX10_init 18 = .ok (.aload_n 0, 1) := by decide +kernel
theorem dX10_init_19 : decode cX10_init 19 = .ok (.iconst 4, 1) := by decide +kernel
theorem dX10_init_20 : decode cX10_init 20 = .ok (.anewarray 18, 3) := by decide +kernel
theorem dX10_init_23 : decode cX10_init 23 = .ok (.putfield 20, 3) := by decide +kernel
theorem dX10_init_26 : decode cX10_init 26 = .ok (.iconst 1, 1) := by decide +kernel
theorem dX10_init_27 : decode cX10_init 27 = .ok (.iload_n 1, 1) := by decide +kernel
theorem dX10_init_28 : decode cX10_init 28 = .ok (.sipush 1024, 3) := by decide +kernel
theorem dX10_init_31 : decode cX10_init 31 = .ok (.invokestatic 24, 3) := by decide +kernel
theorem dX10_init_34 : decode cX10_init 34 = .ok (.invokestatic 30, 3) := by decide +kernel
theorem dX10_init_37 : decode cX10_init 37 = .ok (.istore_n 2, 1) := by decide +kernel
theorem dX10_init_38 : decode cX10_init 38 = .ok (.new 33, 3) := by decide +kernel
theorem dX10_init_41 : decode cX10_init 41 = .ok (.dup, 1) := by decide +kernel
theorem dX10_init_42 : decode cX10_init 42 = .ok (.invokespecial 35, 3) := by decide +kernel
theorem dX10_init_45 : decode cX10_init 45 = .ok (.astore_n 3, 1) := by decide +kernel
theorem dX10_init_46 : decode cX10_init 46 = .ok (.aload_n 0, 1) := by decide +kernel
theorem dX10_init_47 : decode cX10_init 47 = .ok (.new 36, 3) := by decide +kernel
theorem dX10_init_50 : decode cX10_init 50 = .ok (.dup, 1) := by decide +kernel
theorem dX10_init_51 : decode cX10_init 51 = .ok (.aload_n 3, 1) := by decide +kernel
theorem dX10_init_52 : decode cX10_init 52 = .ok (.invokespecial 38, 3) := by decide +kernel
theorem dX10_init_55 : decode cX10_init 55 = .ok (.putfield 41, 3) := by decide +kernel
theorem dX10_init_58 : decode cX10_init 58 = .ok (.aload_n 0, 1) := by decide +kernel
theorem dX10_init_59 : decode cX10_init 59 = .ok (.new 45, 3) := by decide +kernel
theorem dX10_init_62 : decode cX10_init 62 = .ok (.dup, 1) := by decide +kernel
theorem dX10_init_63 : decode cX10_init 63 = .ok (.iload_n 2, 1) := by decide +kernel
theorem dX10_init_64 : decode cX10_init 64 = .ok (.invokespecial 47, 3) := by decide +kernel
theorem dX10_init_67 : decode cX10_init 67 = .ok (.putfield 48, 3) := by decide +kernel
theorem dX10_init_70 : decode cX10_init 70 = .ok (.iconst 0, 1) := by decide +kernel
theorem dX10_init_71 : decode cX10_init 71 = .ok (.istore 4, 2) := by decide +kernel
theorem dX10_init_73 : decode cX10_init 73 = .ok (.iload 4, 2) := by decide +kernel
theorem dX10_init_75 : decode cX10_init 75 = .ok (.iconst 4, 1) := by decide +kernel
theorem dX10_init_76 : decode cX10_init 76 = .ok (.if_icmp .ge 29, 3) := by decide +kernel
theorem dX10_init_79 : decode cX10_init 79 = .ok (.aload_n 0, 1) := by decide +kernel
theorem dX10_init_80 : decode cX10_init 80 = .ok (.getfield 20, 3) := by decide +kernel
theorem dX10_init_83 : decode cX10_init 83 = .ok (.iload 4, 2) := by decide +kernel
theorem dX10_init_85 : decode cX10_init 85 = .ok (.new 18, 3) := by decide +kernel
theorem dX10_init_88 : decode cX10_init 88 = .ok (.dup, 1) := by decide +kernel
theorem dX10_init_89 : decode cX10_init 89 = .ok (.aload_n 0, 1) := by decide +kernel
theorem dX10_init_90 : decode cX10_init 90 = .ok (.getfield 48, 3) := by decide +kernel
theorem dX10_init_93 : decode cX10_init 93 = .ok (.iload 4, 2) := by decide +kernel
theorem dX10_init_95 : decode cX10_init 95 = .ok (.invokespecial 52, 3) := by decide +kernel
theorem dX10_init_98 : decode cX10_init 98 = .ok (.aastore, 1) := by decide +kernel
theorem dX10_init_99 : decode cX10_init 99 = .ok (.iinc 4 1, 3) := by decide +kernel
theorem dX10_init_102 : decode cX10_init 102 = .ok (.goto (-29), 3) := by decide +kernel
theorem dX10_init_105 : decode cX10_init 105 = .ok (.aload_n 0, 1) := by decide +kernel
theorem dX10_init_106 : decode cX10_init 106 = .ok (.new 55, 3) := by decide +kernel
theorem dX10_init_109 : decode cX10_init 109 = .ok (.dup, 1) := by decide +kernel
theorem dX10_init_110 : decode cX10_init 110 = .ok (.aload_n 0, 1) := by decide +kernel
theorem dX10_init_111 : decode cX10_init 111 = .ok (.getfield 48, 3) := by decide +kernel
theorem dX10_init_114 : decode cX10_init 114 = .ok (.iload_n 2, 1) := by decide +kernel
theorem dX10_init_115 : decode cX10_init 115 = .ok (.invokespecial 57, 3) := by decide +kernel
theorem dX10_init_118 : decode cX10_init 118 = .ok (.putfield 58, 3) := by decide +kernel
theorem dX10_init_121 : decode cX10_init 121 = .ok (.aload_n 0, 1) := by decide +kernel
theorem dX10_init_122 : decode cX10_init 122 = .ok (.getfield 58, 3) := by decide +kernel
theorem dX10_init_125 : decode cX10_init 125 = .ok (.invokevirtual 62, 3) := by decide +kernel
theorem dX10_init_128 : decode cX10_init 128 = .ok (.aload_n 0, 1) := by decide +kernel
theorem dX10_init_129 : decode cX10_init 129 = .ok (.new 65, 3) := by decide +kernel
theorem dX10_init_132 : decode cX10_init 132 = .ok (.dup, 1) := by decide +kernel
theorem dX10_init_133 : decode cX10_init 133 = .ok (.aload_n 0, 1) := by decide +kernel
theorem dX10_init_134 : decode cX10_init 134 = .ok (.getfield 48, 3) := by decide +kernel
theorem dX10_init_137 : decode cX10_init 137 = .ok (.aload_n 0, 1) := by decide +kernel
theorem dX10_init_138 : decode cX10_init 138 = .ok (.getfield 58, 3) := by decide +kernel
theorem dX10_init_141 : decode cX10_init 141 = .ok (.invokespecial 67, 3) := by decide +kernel
theorem dX10_init_144 : decode cX10_init 144 = .ok (.putfield 70, 3) := by decide +kernel
theorem dX10_init_147 : decode cX10_init 147 = .ok (.aload_n 0, 1) := by decide +kernel
theorem dX10_init_148 : decode cX10_init 148 = .ok (.new 74, 3) := by decide +kernel
theorem dX10_init_151 : decode cX10_init 151 = .ok (.dup, 1) := by decide +kernel
theorem dX10_init_152 : decode cX10_init 152 = .ok (.aload_n 0, 1) := by decide +kernel
theorem dX10_init_153 : decode cX10_init 153 = .ok (.getfield 48, 3) := by decide +kernel
theorem dX10_init_156 : decode cX10_init 156 = .ok (.aload_n 0, 1) := by decide +kernel
theorem dX10_init_157 : decode cX10_init 157 = .ok (.getfield 20, 3) := by decide +kernel
theorem dX10_init_160 : decode cX10_init 160 = .ok (.aload_n 0, 1) := by decide +kernel
theorem dX10_init_161 : decode cX10_init 161 = .ok (.getfield 58, 3) := by decide +kernel
theorem dX10_init_164 : decode cX10_init 164 = .ok (.aload_n 3, 1) := by decide +kernel
theorem dX10_init_165 : decode cX10_init 165 = .ok (.invokespecial 76, 3) := by decide +kernel
theorem dX10_init_168 : decode cX10_init 168 = .ok (.putfield 79, 3) := by decide +kernel
theorem dX10_init_171 : decode cX10_init 171 = .ok (.return_, 1) := by decide +kernel
theorem dX10_feed_0 : decode cX10_feed 0 = .ok (.aload_n 0, 1) := by decide +kernel
theorem dX10_feed_1 : decode cX10_feed 1 = .ok (.getfield 14, 3) := by decide +kernel
theorem dX10_feed_4 : decode cX10_feed 4 = .ok (.invokevirtual 83, 3) := by decide +kernel
theorem dX10_feed_7 : decode cX10_feed 7 = .ok (.bipush 20, 2) := by decide +kernel
theorem dX10_feed_9 : decode cX10_feed 9 = .ok (.iadd, 1) := by decide +kernel
theorem dX10_feed_10 : decode cX10_feed 10 = .ok (.sipush 300, 3) := by decide +kernel
theorem dX10_feed_13 : decode cX10_feed 13 = .ok (.if_icmp .le 6, 3) := by decide +kernel
theorem dX10_feed_16 : decode cX10_feed 16 = .ok (.bipush (-5), 2) := by decide +kernel
theorem dX10_feed_18 : decode cX10_feed 18 = .ok (.ireturn, 1) := by decide +kernel
theorem dX10_feed_19 : decode cX10_feed 19 = .ok (.aload_n 0, 1) := by decide +kernel
theorem dX10_feed_20 : decode cX10_feed 20 = .ok (.getfield 14, 3) := by decide +kernel
theorem dX10_feed_23 : decode cX10_feed 23 = .ok (.iload_n 1, 1) := by decide +kernel
theorem dX10_feed_24 : decode cX10_feed 24 = .ok (.i2l, 1) := by decide +kernel
theorem dX10_feed_25 : decode cX10_feed 25 = .ok (.iconst 4, 1) := by decide +kernel
theorem dX10_feed_26 : decode cX10_feed 26 = .ok (.invokevirtual 87, 3) := by decide +kernel
theorem dX10_feed_29 : decode cX10_feed 29 = .ok (.aload_n 0, 1) := by decide +kernel
theorem dX10_feed_30 : decode cX10_feed 30 = .ok (.getfield 14, 3) := by decide +kernel
theorem dX10_feed_33 : decode cX10_feed 33 = .ok (.iload_n 2, 1) := by decide +kernel
theorem dX10_feed_34 : decode cX10_feed 34 = .ok (.i2l, 1) := by decide +kernel
theorem dX10_feed_35 : decode cX10_feed 35 = .ok (.iconst 4, 1) := by decide +kernel
theorem dX10_feed_36 : decode cX10_feed 36 = .ok (.invokevirtual 87, 3) := by decide +kernel
theorem dX10_feed_39 : decode cX10_feed 39 = .ok (.aload_n 0, 1) := by decide +kernel
theorem dX10_feed_40 : decode cX10_feed 40 = .ok (.getfield 14, 3) := by decide +kernel
theorem dX10_feed_43 : decode cX10_feed 43 = .ok (.iload_n 3, 1) := by decide +kernel
theorem dX10_feed_44 : decode cX10_feed 44 = .ok (.i2l, 1) := by decide +kernel
theorem dX10_feed_45 : decode cX10_feed 45 = .ok (.iconst 4, 1) := by decide +kernel
theorem dX10_feed_46 : decode cX10_feed 46 = .ok (.invokevirtual 87, 3) := by decide +kernel
theorem dX10_feed_49 : decode cX10_feed 49 = .ok (.aload_n 0, 1) := by decide +kernel
theorem dX10_feed_50 : decode cX10_feed 50 = .ok (.getfield 14, 3) := by decide +kernel
theorem dX10_feed_53 : decode cX10_feed 53 = .ok (.iload 4, 2) := by decide +kernel
theorem dX10_feed_55 : decode cX10_feed 55 = .ok (.i2l, 1) := by decide +kernel
theorem dX10_feed_56 : decode cX10_feed 56 = .ok (.iconst 4, 1) := by decide +kernel
theorem dX10_feed_57 : decode cX10_feed 57 = .ok (.invokevirtual 87, 3) := by decide +kernel
theorem dX10_feed_60 : decode cX10_feed 60 = .ok (.aload_n 0, 1) := by decide +kernel
theorem dX10_feed_61 : decode cX10_feed 61 = .ok (.getfield 14, 3) := by decide +kernel
theorem dX10_feed_64 : decode cX10_feed 64 = .ok (.iload 5, 2) := by decide +kernel
theorem dX10_feed_66 : decode cX10_feed 66 = .ok (.i2l, 1) := by decide +kernel
theorem dX10_feed_67 : decode cX10_feed 67 = .ok (.iconst 4, 1) := by decide +kernel
theorem dX10_feed_68 : decode cX10_feed 68 = .ok (.invokevirtual 87, 3) := by decide +kernel
theorem dX10_feed_71 : decode cX10_feed 71 = .ok (.aload_n 0, 1) := by decide +kernel
theorem dX10_feed_72 : decode cX10_feed 72 = .ok (.getfield 14, 3) := by decide +kernel
theorem dX10_feed_75 : decode cX10_feed 75 = .ok (.invokevirtual 83, 3) := by decide +kernel
theorem dX10_feed_78 : decode cX10_feed 78 = .ok (.ireturn, 1) := by decide +kernel
theorem dX10_end_0 : decode cX10_end 0 = .ok (.iload_n 1, 1) := by decide +kernel
theorem dX10_end_1 : decode cX10_end 1 = .ok (.ifCond .lt 21, 3) := by decide +kernel
theorem dX10_end_4 : decode cX10_end 4 = .ok (.iload_n 1, 1) := by decide +kernel
theorem dX10_end_5 : decode cX10_end 5 = .ok (.bipush 20, 2) := by decide +kernel
theorem dX10_end_7 : decode cX10_end 7 = .ok (.if_icmp .gt 15, 3) := by decide +kernel
theorem dX10_end_10 : decode cX10_end 10 = .ok (.aload_n 0, 1) := by decide +kernel
theorem dX10_end_11 : decode cX10_end 11 = .ok (.getfield 14, 3) := by decide +kernel
theorem dX10_end_14 : decode cX10_end 14 = .ok (.invokevirtual 83, 3) := by decide +kernel
theorem dX10_end_17 : decode cX10_end 17 = .ok (.bipush 20, 2) := by decide +kernel
theorem dX10_end_19 : decode cX10_end 19 = .ok (.if_icmp .ge 5, 3) := by decide +kernel
theorem dX10_end_22 : decode cX10_end 22 = .ok (.iconst (-1), 1) := by decide +kernel
theorem dX10_end_23 : decode cX10_end 23 = .ok (.ireturn, 1) := by decide +kernel
theorem dX10_end_24 : decode cX10_end 24 = .ok (.aload_n 0, 1) := by decide +kernel
theorem dX10_end_25 : decode cX10_end 25 = .ok (.getfield 14, 3) := by decide +kernel
theorem dX10_end_28 : decode cX10_end 28 = .ok (.bipush 20, 2) := by decide +kernel
theorem dX10_end_30 : decode cX10_end 30 = .ok (.iload_n 1, 1) := by decide +kernel
theorem dX10_end_31 : decode cX10_end 31 = .ok (.isub, 1) := by decide +kernel
theorem dX10_end_32 : decode cX10_end 32 = .ok (.invokevirtual 91, 3) := by decide +kernel
theorem dX10_end_35 : decode cX10_end 35 = .ok (.aload_n 0, 1) := by decide +kernel
theorem dX10_end_36 : decode cX10_end 36 = .ok (.getfield 14, 3) := by decide +kernel
theorem dX10_end_39 : decode cX10_end 39 = .ok (.invokevirtual 83, 3) := by decide +kernel
theorem dX10_end_42 : decode cX10_end 42 = .ok (.ireturn, 1) := by decide +kernel
theorem dX10_byteOf_0 : decode cX10_byteOf 0 = .ok (.aload_n 0, 1) := by decide +kernel
theorem dX10_byteOf_1 : decode cX10_byteOf 1 = .ok (.getfield 14, 3) := by decide +kernel
theorem dX10_byteOf_4 : decode cX10_byteOf 4 = .ok (.iload_n 1, 1) := by decide +kernel
theorem dX10_byteOf_5 : decode cX10_byteOf 5 = .ok (.invokevirtual 94, 3) := by decide +kernel
theorem dX10_byteOf_8 : decode cX10_byteOf 8 = .ok (.ifCond .eq 14, 3) := by decide +kernel
theorem dX10_byteOf_11 : decode cX10_byteOf 11 = .ok (.aload_n 0, 1) := by decide +kernel
theorem dX10_byteOf_12 : decode cX10_byteOf 12 = .ok (.getfield 14, 3) := by decide +kernel
theorem dX10_byteOf_15 : decode cX10_byteOf 15 = .ok (.iload_n 1, 1) := by decide +kernel
theorem dX10_byteOf_16 : decode cX10_byteOf 16 = .ok (.invokevirtual 98, 3) := by decide +kernel
theorem dX10_byteOf_19 : decode cX10_byteOf 19 = .ok (.goto 4, 3) := by decide +kernel
theorem dX10_byteOf_22 : decode cX10_byteOf 22 = .ok (.iconst (-1), 1) := by decide +kernel
theorem dX10_byteOf_23 : decode cX10_byteOf 23 = .ok (.ireturn, 1) := by decide +kernel
theorem dX10_plan_0 : decode cX10_plan 0 = .ok (.aload_n 0, 1) := by decide +kernel
theorem dX10_plan_1 : decode cX10_plan 1 = .ok (.getfield 41, 3) := by decide +kernel
theorem dX10_plan_4 : decode cX10_plan 4 = .ok (.iload_n 1, 1) := by decide +kernel
theorem dX10_plan_5 : decode cX10_plan 5 = .ok (.iload_n 2, 1) := by decide +kernel
theorem dX10_plan_6 : decode cX10_plan 6 = .ok (.iload_n 3, 1) := by decide +kernel
theorem dX10_plan_7 : decode cX10_plan 7 = .ok (.invokevirtual 102, 3) := by decide +kernel
theorem dX10_plan_10 : decode cX10_plan 10 = .ok (.ireturn, 1) := by decide +kernel
theorem dX10_image_0 : decode cX10_image 0 = .ok (.aload_n 0, 1) := by decide +kernel
theorem dX10_image_1 : decode cX10_image 1 = .ok (.getfield 41, 3) := by decide +kernel
theorem dX10_image_4 : decode cX10_image 4 = .ok (.iload_n 1, 1) := by decide +kernel
theorem dX10_image_5 : decode cX10_image 5 = .ok (.iload_n 2, 1) := by decide +kernel
theorem dX10_image_6 : decode cX10_image 6 = .ok (.iload_n 3, 1) := by decide +kernel
theorem dX10_image_7 : decode cX10_image 7 = .ok (.invokevirtual 106, 3) := by decide +kernel
theorem dX10_image_10 : decode cX10_image 10 = .ok (.ireturn, 1) := by decide +kernel
theorem dX10_clear_0 : decode cX10_clear 0 = .ok (.aload_n 0, 1) := by decide +kernel
theorem dX10_clear_1 : decode cX10_clear 1 = .ok (.getfield 41, 3) := by decide +kernel
theorem dX10_clear_4 : decode cX10_clear 4 = .ok (.invokevirtual 109, 3) := by decide +kernel
theorem dX10_clear_7 : decode cX10_clear 7 = .ok (.ireturn, 1) := by decide +kernel
theorem dX10_draft_0 : decode cX10_draft 0 = .ok (.aload_n 0, 1) := by decide +kernel
theorem dX10_draft_1 : decode cX10_draft 1 = .ok (.getfield 41, 3) := by decide +kernel
theorem dX10_draft_4 : decode cX10_draft 4 = .ok (.iload_n 1, 1) := by decide +kernel
theorem dX10_draft_5 : decode cX10_draft 5 = .ok (.iload_n 2, 1) := by decide +kernel
theorem dX10_draft_6 : decode cX10_draft 6 = .ok (.iload_n 3, 1) := by decide +kernel
theorem dX10_draft_7 : decode cX10_draft 7 = .ok (.invokevirtual 112, 3) := by decide +kernel
theorem dX10_draft_10 : decode cX10_draft 10 = .ok (.ireturn, 1) := by decide +kernel
theorem dX10_sign_0 : decode cX10_sign 0 = .ok (.aload_n 0, 1) := by decide +kernel
theorem dX10_sign_1 : decode cX10_sign 1 = .ok (.getfield 41, 3) := by decide +kernel
theorem dX10_sign_4 : decode cX10_sign 4 = .ok (.iload_n 1, 1) := by decide +kernel
theorem dX10_sign_5 : decode cX10_sign 5 = .ok (.invokevirtual 115, 3) := by decide +kernel
theorem dX10_sign_8 : decode cX10_sign 8 = .ok (.ireturn, 1) := by decide +kernel
theorem dX10_show_0 : decode cX10_show 0 = .ok (.aload_n 0, 1) := by decide +kernel
theorem dX10_show_1 : decode cX10_show 1 = .ok (.getfield 41, 3) := by decide +kernel
theorem dX10_show_4 : decode cX10_show 4 = .ok (.aload_n 0, 1) := by decide +kernel
theorem dX10_show_5 : decode cX10_show 5 = .ok (.getfield 14, 3) := by decide +kernel
theorem dX10_show_8 : decode cX10_show 8 = .ok (.invokevirtual 118, 3) := by decide +kernel
theorem dX10_show_11 : decode cX10_show 11 = .ok (.ireturn, 1) := by decide +kernel
theorem dX10_piece_0 : decode cX10_piece 0 = .ok (.aload_n 0, 1) := by decide +kernel
theorem dX10_piece_1 : decode cX10_piece 1 = .ok (.getfield 41, 3) := by decide +kernel
theorem dX10_piece_4 : decode cX10_piece 4 = .ok (.iload_n 1, 1) := by decide +kernel
theorem dX10_piece_5 : decode cX10_piece 5 = .ok (.iload_n 2, 1) := by decide +kernel
theorem dX10_piece_6 : decode cX10_piece 6 = .ok (.aload_n 0, 1) := by decide +kernel
theorem dX10_piece_7 : decode cX10_piece 7 = .ok (.getfield 14, 3) := by decide +kernel
theorem dX10_piece_10 : decode cX10_piece 10 = .ok (.invokevirtual 122, 3) := by decide +kernel
theorem dX10_piece_13 : decode cX10_piece 13 = .ok (.ireturn, 1) := by decide +kernel
theorem dX10_spoil_0 : decode cX10_spoil 0 = .ok (.aload_n 0, 1) := by decide +kernel
theorem dX10_spoil_1 : decode cX10_spoil 1 = .ok (.getfield 14, 3) := by decide +kernel
theorem dX10_spoil_4 : decode cX10_spoil 4 = .ok (.iload_n 1, 1) := by decide +kernel
theorem dX10_spoil_5 : decode cX10_spoil 5 = .ok (.invokevirtual 94, 3) := by decide +kernel
theorem dX10_spoil_8 : decode cX10_spoil 8 = .ok (.ifCond .eq 15, 3) := by decide +kernel
theorem dX10_spoil_11 : decode cX10_spoil 11 = .ok (.iload_n 2, 1) := by decide +kernel
theorem dX10_spoil_12 : decode cX10_spoil 12 = .ok (.iconst 1, 1) := by decide +kernel
theorem dX10_spoil_13 : decode cX10_spoil 13 = .ok (.if_icmp .lt 10, 3) := by decide +kernel
theorem dX10_spoil_16 : decode cX10_spoil 16 = .ok (.iload_n 2, 1) := by decide +kernel
theorem dX10_spoil_17 : decode cX10_spoil 17 = .ok (.sipush 255, 3) := by decide +kernel
theorem dX10_spoil_20 : decode cX10_spoil 20 = .ok (.if_icmp .le 5, 3) := by decide +kernel
theorem dX10_spoil_23 : decode cX10_spoil 23 = .ok (.iconst (-1), 1) := by decide +kernel
theorem dX10_spoil_24 : decode cX10_spoil 24 = .ok (.ireturn, 1) := by decide +kernel
theorem dX10_spoil_25 : decode cX10_spoil 25 = .ok (.aload_n 0, 1) := by decide +kernel
theorem dX10_spoil_26 : decode cX10_spoil 26 = .ok (.getfield 14, 3) := by decide +kernel
theorem dX10_spoil_29 : decode cX10_spoil 29 = .ok (.iload_n 1, 1) := by decide +kernel
theorem dX10_spoil_30 : decode cX10_spoil 30 = .ok (.aload_n 0, 1) := by decide +kernel
theorem dX10_spoil_31 : decode cX10_spoil 31 = .ok (.getfield 14, 3) := by decide +kernel
theorem dX10_spoil_34 : decode cX10_spoil 34 = .ok (.iload_n 1, 1) := by decide +kernel
theorem dX10_spoil_35 : decode cX10_spoil 35 = .ok (.invokevirtual 98, 3) := by decide +kernel
theorem dX10_spoil_38 : decode cX10_spoil 38 = .ok (.iload_n 2, 1) := by decide +kernel
theorem dX10_spoil_39 : decode cX10_spoil 39 = .ok (.ixor, 1) := by decide +kernel
theorem dX10_spoil_40 : decode cX10_spoil 40 = .ok (.invokevirtual 126, 3) := by decide +kernel
theorem dX10_spoil_43 : decode cX10_spoil 43 = .ok (.aload_n 0, 1) := by decide +kernel
theorem dX10_spoil_44 : decode cX10_spoil 44 = .ok (.getfield 14, 3) := by decide +kernel
theorem dX10_spoil_47 : decode cX10_spoil 47 = .ok (.iload_n 1, 1) := by decide +kernel
theorem dX10_spoil_48 : decode cX10_spoil 48 = .ok (.invokevirtual 98, 3) := by decide +kernel
theorem dX10_spoil_51 : decode cX10_spoil 51 = .ok (.ireturn, 1) := by decide +kernel
theorem dX10_begin_0 : decode cX10_begin 0 = .ok (.iload_n 1, 1) := by decide +kernel
theorem dX10_begin_1 : decode cX10_begin 1 = .ok (.ifCond .ge 5, 3) := by decide +kernel
theorem dX10_begin_4 : decode cX10_begin 4 = .ok (.iconst (-1), 1) := by decide +kernel
theorem dX10_begin_5 : decode cX10_begin 5 = .ok (.ireturn, 1) := by decide +kernel
theorem dX10_begin_6 : decode cX10_begin 6 = .ok (.aload_n 0, 1) := by decide +kernel
theorem dX10_begin_7 : decode cX10_begin 7 = .ok (.getfield 48, 3) := by decide +kernel
theorem dX10_begin_10 : decode cX10_begin 10 = .ok (.invokevirtual 130, 3) := by decide +kernel
theorem dX10_begin_13 : decode cX10_begin 13 = .ok (.ifCond .eq 6, 3) := by decide +kernel
theorem dX10_begin_16 : decode cX10_begin 16 = .ok (.bipush (-3), 2) := by decide +kernel
theorem dX10_begin_18 : decode cX10_begin 18 = .ok (.ireturn, 1) := by decide +kernel
theorem dX10_begin_19 : decode cX10_begin 19 = .ok (.aload_n 0, 1) := by decide +kernel
theorem dX10_begin_20 : decode cX10_begin 20 = .ok (.getfield 79, 3) := by decide +kernel
theorem dX10_begin_23 : decode cX10_begin 23 = .ok (.invokevirtual 134, 3) := by decide +kernel
theorem dX10_begin_26 : decode cX10_begin 26 = .ok (.ifCond .ne 13, 3) := by decide +kernel
theorem dX10_begin_29 : decode cX10_begin 29 = .ok (.aload_n 0, 1) := by decide +kernel
theorem dX10_begin_30 : decode cX10_begin 30 = .ok (.getfield 70, 3) := by decide +kernel
theorem dX10_begin_33 : decode cX10_begin 33 = .ok (.invokevirtual 137, 3) := by decide +kernel
theorem dX10_begin_36 : decode cX10_begin 36 = .ok (.ifCond .ne 6, 3) := by decide +kernel
theorem dX10_begin_39 : decode cX10_begin 39 = .ok (.bipush (-4), 2) := by decide +kernel
theorem dX10_begin_41 : decode cX10_begin 41 = .ok (.ireturn, 1) := by decide +kernel
theorem dX10_begin_42 : decode cX10_begin 42 = .ok (.aload_n 0, 1) := by decide +kernel
theorem dX10_begin_43 : decode cX10_begin 43 = .ok (.getfield 79, 3) := by decide +kernel
theorem dX10_begin_46 : decode cX10_begin 46 = .ok (.iload_n 1, 1) := by decide +kernel
theorem dX10_begin_47 : decode cX10_begin 47 = .ok (.invokevirtual 140, 3) := by decide +kernel
theorem dX10_begin_50 : decode cX10_begin 50 = .ok (.ireturn, 1) := by decide +kernel
theorem dX10_answer_0 : decode cX10_answer 0 = .ok (.aload_n 0, 1) := by decide +kernel
theorem dX10_answer_1 : decode cX10_answer 1 = .ok (.getfield 48, 3) := by decide +kernel
theorem dX10_answer_4 : decode cX10_answer 4 = .ok (.invokevirtual 130, 3) := by decide +kernel
theorem dX10_answer_7 : decode cX10_answer 7 = .ok (.ifCond .eq 6, 3) := by decide +kernel
theorem dX10_answer_10 : decode cX10_answer 10 = .ok (.bipush (-3), 2) := by decide +kernel
theorem dX10_answer_12 : decode cX10_answer 12 = .ok (.ireturn, 1) := by decide +kernel
theorem dX10_answer_13 : decode cX10_answer 13 = .ok (.aload_n 0, 1) := by decide +kernel
theorem dX10_answer_14 : decode cX10_answer 14 = .ok (.getfield 79, 3) := by decide +kernel
theorem dX10_answer_17 : decode cX10_answer 17 = .ok (.invokevirtual 134, 3) := by decide +kernel
theorem dX10_answer_20 : decode cX10_answer 20 = .ok (.ifCond .ne 6, 3) := by decide +kernel
theorem dX10_answer_23 : decode cX10_answer 23 = .ok (.bipush (-4), 2) := by decide +kernel
theorem dX10_answer_25 : decode cX10_answer 25 = .ok (.ireturn, 1) := by decide +kernel
theorem dX10_answer_26 : decode cX10_answer 26 = .ok (.aload_n 0, 1) := by decide +kernel
theorem dX10_answer_27 : decode cX10_answer 27 = .ok (.getfield 79, 3) := by decide +kernel
theorem dX10_answer_30 : decode cX10_answer 30 = .ok (.getfield 143, 3) := by decide +kernel
theorem dX10_answer_33 : decode cX10_answer 33 = .ok (.iconst 1, 1) := by decide +kernel
theorem dX10_answer_34 : decode cX10_answer 34 = .ok (.if_icmp .ne 18, 3) := by decide +kernel
theorem dX10_answer_37 : decode cX10_answer 37 = .ok (.aload_n 0, 1) := by decide +kernel
theorem dX10_answer_38 : decode cX10_answer 38 = .ok (.getfield 79, 3) := by decide +kernel
theorem dX10_answer_41 : decode cX10_answer 41 = .ok (.aload_n 0, 1) := by decide +kernel
theorem dX10_answer_42 : decode cX10_answer 42 = .ok (.getfield 14, 3) := by decide +kernel
theorem dX10_answer_45 : decode cX10_answer 45 = .ok (.invokevirtual 147, 3) := by decide +kernel
theorem dX10_answer_48 : decode cX10_answer 48 = .ok (.istore_n 1, 1) := by decide +kernel
theorem dX10_answer_49 : decode cX10_answer 49 = .ok (.goto 41, 3) := by decide +kernel
theorem dX10_answer_52 : decode cX10_answer 52 = .ok (.aload_n 0, 1) := by decide +kernel
theorem dX10_answer_53 : decode cX10_answer 53 = .ok (.getfield 79, 3) := by decide +kernel
theorem dX10_answer_56 : decode cX10_answer 56 = .ok (.getfield 143, 3) := by decide +kernel
theorem dX10_answer_59 : decode cX10_answer 59 = .ok (.iconst 5, 1) := by decide +kernel
theorem dX10_answer_60 : decode cX10_answer 60 = .ok (.if_icmp .ne 18, 3) := by decide +kernel
theorem dX10_answer_63 : decode cX10_answer 63 = .ok (.aload_n 0, 1) := by decide +kernel
theorem dX10_answer_64 : decode cX10_answer 64 = .ok (.getfield 79, 3) := by decide +kernel
theorem dX10_answer_67 : decode cX10_answer 67 = .ok (.aload_n 0, 1) := by decide +kernel
theorem dX10_answer_68 : decode cX10_answer 68 = .ok (.getfield 14, 3) := by decide +kernel
theorem dX10_answer_71 : decode cX10_answer 71 = .ok (.invokevirtual 150, 3) := by decide +kernel
theorem dX10_answer_74 : decode cX10_answer 74 = .ok (.istore_n 1, 1) := by decide +kernel
theorem dX10_answer_75 : decode cX10_answer 75 = .ok (.goto 15, 3) := by decide +kernel
theorem dX10_answer_78 : decode cX10_answer 78 = .ok (.aload_n 0, 1) := by decide +kernel
theorem dX10_answer_79 : decode cX10_answer 79 = .ok (.getfield 79, 3) := by decide +kernel
theorem dX10_answer_82 : decode cX10_answer 82 = .ok (.aload_n 0, 1) := by decide +kernel
theorem dX10_answer_83 : decode cX10_answer 83 = .ok (.getfield 14, 3) := by decide +kernel
theorem dX10_answer_86 : decode cX10_answer 86 = .ok (.invokevirtual 153, 3) := by decide +kernel
theorem dX10_answer_89 : decode cX10_answer 89 = .ok (.istore_n 1, 1) := by decide +kernel
theorem dX10_answer_90 : decode cX10_answer 90 = .ok (.aload_n 0, 1) := by decide +kernel
theorem dX10_answer_91 : decode cX10_answer 91 = .ok (.getfield 14, 3) := by decide +kernel
theorem dX10_answer_94 : decode cX10_answer 94 = .ok (.invokevirtual 156, 3) := by decide +kernel
theorem dX10_answer_97 : decode cX10_answer 97 = .ok (.aload_n 0, 1) := by decide +kernel
theorem dX10_answer_98 : decode cX10_answer 98 = .ok (.iload_n 1, 1) := by decide +kernel
theorem dX10_answer_99 : decode cX10_answer 99 = .ok (.invokevirtual 159, 3) := by decide +kernel
theorem dX10_answer_102 : decode cX10_answer 102 = .ok (.ireturn, 1) := by decide +kernel
theorem dX10_refuse_0 : decode cX10_refuse 0 = .ok (.aload_n 0, 1) := by decide +kernel
theorem dX10_refuse_1 : decode cX10_refuse 1 = .ok (.getfield 48, 3) := by decide +kernel
theorem dX10_refuse_4 : decode cX10_refuse 4 = .ok (.invokevirtual 130, 3) := by decide +kernel
theorem dX10_refuse_7 : decode cX10_refuse 7 = .ok (.ifCond .eq 6, 3) := by decide +kernel
theorem dX10_refuse_10 : decode cX10_refuse 10 = .ok (.bipush (-3), 2) := by decide +kernel
theorem dX10_refuse_12 : decode cX10_refuse 12 = .ok (.ireturn, 1) := by decide +kernel
theorem dX10_refuse_13 : decode cX10_refuse 13 = .ok (.aload_n 0, 1) := by decide +kernel
theorem dX10_refuse_14 : decode cX10_refuse 14 = .ok (.getfield 79, 3) := by decide +kernel
theorem dX10_refuse_17 : decode cX10_refuse 17 = .ok (.invokevirtual 134, 3) := by decide +kernel
theorem dX10_refuse_20 : decode cX10_refuse 20 = .ok (.ifCond .ne 6, 3) := by decide +kernel
theorem dX10_refuse_23 : decode cX10_refuse 23 = .ok (.bipush (-4), 2) := by decide +kernel
theorem dX10_refuse_25 : decode cX10_refuse 25 = .ok (.ireturn, 1) := by decide +kernel
theorem dX10_refuse_26 : decode cX10_refuse 26 = .ok (.aload_n 0, 1) := by decide +kernel
theorem dX10_refuse_27 : decode cX10_refuse 27 = .ok (.getfield 79, 3) := by decide +kernel
theorem dX10_refuse_30 : decode cX10_refuse 30 = .ok (.invokevirtual 162, 3) := by decide +kernel
theorem dX10_refuse_33 : decode cX10_refuse 33 = .ok (.ireturn, 1) := by decide +kernel
theorem dX10_awaits_0 : decode cX10_awaits 0 = .ok (.iload_n 1, 1) := by decide +kernel
theorem dX10_awaits_1 : decode cX10_awaits 1 = .ok (.tableswitch 51 0 2 #[27, 35, 43], 27) := by decide +kernel
theorem dX10_awaits_28 : decode cX10_awaits 28 = .ok (.aload_n 0, 1) := by decide +kernel
theorem dX10_awaits_29 : decode cX10_awaits 29 = .ok (.getfield 79, 3) := by decide +kernel
theorem dX10_awaits_32 : decode cX10_awaits 32 = .ok (.getfield 143, 3) := by decide +kernel
theorem dX10_awaits_35 : decode cX10_awaits 35 = .ok (.ireturn, 1) := by decide +kernel
theorem dX10_awaits_36 : decode cX10_awaits 36 = .ok (.aload_n 0, 1) := by decide +kernel
theorem dX10_awaits_37 : decode cX10_awaits 37 = .ok (.getfield 79, 3) := by decide +kernel
theorem dX10_awaits_40 : decode cX10_awaits 40 = .ok (.invokevirtual 165, 3) := by decide +kernel
theorem dX10_awaits_43 : decode cX10_awaits 43 = .ok (.ireturn, 1) := by decide +kernel
theorem dX10_awaits_44 : decode cX10_awaits 44 = .ok (.aload_n 0, 1) := by decide +kernel
theorem dX10_awaits_45 : decode cX10_awaits 45 = .ok (.getfield 79, 3) := by decide +kernel
theorem dX10_awaits_48 : decode cX10_awaits 48 = .ok (.getfield 168, 3) := by decide +kernel
theorem dX10_awaits_51 : decode cX10_awaits 51 = .ok (.ireturn, 1) := by decide +kernel
theorem dX10_awaits_52 : decode cX10_awaits 52 = .ok (.iconst (-1), 1) := by decide +kernel
theorem dX10_awaits_53 : decode cX10_awaits 53 = .ok (.ireturn, 1) := by decide +kernel
theorem dX10_stop_0 : decode cX10_stop 0 = .ok (.aload_n 0, 1) := by decide +kernel
theorem dX10_stop_1 : decode cX10_stop 1 = .ok (.getfield 48, 3) := by decide +kernel
theorem dX10_stop_4 : decode cX10_stop 4 = .ok (.invokevirtual 130, 3) := by decide +kernel
theorem dX10_stop_7 : decode cX10_stop 7 = .ok (.ifCond .eq 6, 3) := by decide +kernel
theorem dX10_stop_10 : decode cX10_stop 10 = .ok (.bipush (-3), 2) := by decide +kernel
theorem dX10_stop_12 : decode cX10_stop 12 = .ok (.ireturn, 1) := by decide +kernel
theorem dX10_stop_13 : decode cX10_stop 13 = .ok (.aload_n 0, 1) := by decide +kernel
theorem dX10_stop_14 : decode cX10_stop 14 = .ok (.getfield 79, 3) := by decide +kernel
theorem dX10_stop_17 : decode cX10_stop 17 = .ok (.invokevirtual 134, 3) := by decide +kernel
theorem dX10_stop_20 : decode cX10_stop 20 = .ok (.ifCond .eq 7, 3) := by decide +kernel
theorem dX10_stop_23 : decode cX10_stop 23 = .ok (.iconst 1, 1) := by decide +kernel
theorem dX10_stop_24 : decode cX10_stop 24 = .ok (.goto 4, 3) := by decide +kernel
theorem dX10_stop_27 : decode cX10_stop 27 = .ok (.iconst 0, 1) := by decide +kernel
theorem dX10_stop_28 : decode cX10_stop 28 = .ok (.istore_n 1, 1) := by decide +kernel
theorem dX10_stop_29 : decode cX10_stop 29 = .ok (.aload_n 0, 1) := by decide +kernel
theorem dX10_stop_30 : decode cX10_stop 30 = .ok (.getfield 79, 3) := by decide +kernel
theorem dX10_stop_33 : decode cX10_stop 33 = .ok (.invokevirtual 171, 3) := by decide +kernel
theorem dX10_stop_36 : decode cX10_stop 36 = .ok (.iload_n 1, 1) := by decide +kernel
theorem dX10_stop_37 : decode cX10_stop 37 = .ok (.ireturn, 1) := by decide +kernel
theorem dX10_power_0 : decode cX10_power 0 = .ok (.iload_n 1, 1) := by decide +kernel
theorem dX10_power_1 : decode cX10_power 1 = .ok (.iconst (-1), 1) := by decide +kernel
theorem dX10_power_2 : decode cX10_power 2 = .ok (.if_icmp .lt 10, 3) := by decide +kernel
theorem dX10_power_5 : decode cX10_power 5 = .ok (.iload_n 1, 1) := by decide +kernel
theorem dX10_power_6 : decode cX10_power 6 = .ok (.sipush 500, 3) := by decide +kernel
theorem dX10_power_9 : decode cX10_power 9 = .ok (.if_icmp .le 5, 3) := by decide +kernel
theorem dX10_power_12 : decode cX10_power 12 = .ok (.iconst (-1), 1) := by decide +kernel
theorem dX10_power_13 : decode cX10_power 13 = .ok (.ireturn, 1) := by decide +kernel
theorem dX10_power_14 : decode cX10_power 14 = .ok (.aload_n 0, 1) := by decide +kernel
theorem dX10_power_15 : decode cX10_power 15 = .ok (.getfield 48, 3) := by decide +kernel
theorem dX10_power_18 : decode cX10_power 18 = .ok (.iload_n 1, 1) := by decide +kernel
theorem dX10_power_19 : decode cX10_power 19 = .ok (.iload_n 2, 1) := by decide +kernel
theorem dX10_power_20 : decode cX10_power 20 = .ok (.invokevirtual 174, 3) := by decide +kernel
theorem dX10_power_23 : decode cX10_power 23 = .ok (.iconst 1, 1) := by decide +kernel
theorem dX10_power_24 : decode cX10_power 24 = .ok (.ireturn, 1) := by decide +kernel
theorem dX10_boot_0 : decode cX10_boot 0 = .ok (.aload_n 0, 1) := by decide +kernel
theorem dX10_boot_1 : decode cX10_boot 1 = .ok (.getfield 79, 3) := by decide +kernel
theorem dX10_boot_4 : decode cX10_boot 4 = .ok (.invokevirtual 171, 3) := by decide +kernel
theorem dX10_boot_7 : decode cX10_boot 7 = .ok (.aload_n 0, 1) := by decide +kernel
theorem dX10_boot_8 : decode cX10_boot 8 = .ok (.getfield 48, 3) := by decide +kernel
theorem dX10_boot_11 : decode cX10_boot 11 = .ok (.invokevirtual 177, 3) := by decide +kernel
theorem dX10_boot_14 : decode cX10_boot 14 = .ok (.aload_n 0, 1) := by decide +kernel
theorem dX10_boot_15 : decode cX10_boot 15 = .ok (.aload_n 0, 1) := by decide +kernel
theorem dX10_boot_16 : decode cX10_boot 16 = .ok (.getfield 70, 3) := by decide +kernel
theorem dX10_boot_19 : decode cX10_boot 19 = .ok (.invokevirtual 180, 3) := by decide +kernel
theorem dX10_boot_22 : decode cX10_boot 22 = .ok (.invokevirtual 159, 3) := by decide +kernel
theorem dX10_boot_25 : decode cX10_boot 25 = .ok (.ireturn, 1) := by decide +kernel
theorem dX10_test_0 : decode cX10_test 0 = .ok (.aload_n 0, 1) := by decide +kernel
theorem dX10_test_1 : decode cX10_test 1 = .ok (.getfield 48, 3) := by decide +kernel
theorem dX10_test_4 : decode cX10_test 4 = .ok (.invokevirtual 130, 3) := by decide +kernel
theorem dX10_test_7 : decode cX10_test 7 = .ok (.ifCond .eq 6, 3) := by decide +kernel
theorem dX10_test_10 : decode cX10_test 10 = .ok (.bipush (-3), 2) := by decide +kernel
theorem dX10_test_12 : decode cX10_test 12 = .ok (.ireturn, 1) := by decide +kernel
theorem dX10_test_13 : decode cX10_test 13 = .ok (.aload_n 0, 1) := by decide +kernel
theorem dX10_test_14 : decode cX10_test 14 = .ok (.getfield 70, 3) := by decide +kernel
theorem dX10_test_17 : decode cX10_test 17 = .ok (.getfield 182, 3) := by decide +kernel
theorem dX10_test_20 : decode cX10_test 20 = .ok (.ifCond .ne 6, 3) := by decide +kernel
theorem dX10_test_23 : decode cX10_test 23 = .ok (.bipush (-4), 2) := by decide +kernel
theorem dX10_test_25 : decode cX10_test 25 = .ok (.ireturn, 1) := by decide +kernel
theorem dX10_test_26 : decode cX10_test 26 = .ok (.aload_n 0, 1) := by decide +kernel
theorem dX10_test_27 : decode cX10_test 27 = .ok (.iload_n 1, 1) := by decide +kernel
theorem dX10_test_28 : decode cX10_test 28 = .ok (.ifCond .eq 13, 3) := by decide +kernel
theorem dX10_test_31 : decode cX10_test 31 = .ok (.aload_n 0, 1) := by decide +kernel
theorem dX10_test_32 : decode cX10_test 32 = .ok (.getfield 70, 3) := by decide +kernel
theorem dX10_test_35 : decode cX10_test 35 = .ok (.invokevirtual 186, 3) := by decide +kernel
theorem dX10_test_38 : decode cX10_test 38 = .ok (.goto 10, 3) := by decide +kernel
theorem dX10_test_41 : decode cX10_test 41 = .ok (.aload_n 0, 1) := by decide +kernel
theorem dX10_test_42 : decode cX10_test 42 = .ok (.getfield 70, 3) := by decide +kernel
theorem dX10_test_45 : decode cX10_test 45 = .ok (.invokevirtual 189, 3) := by decide +kernel
theorem dX10_test_48 : decode cX10_test 48 = .ok (.invokevirtual 159, 3) := by decide +kernel
theorem dX10_test_51 : decode cX10_test 51 = .ok (.ireturn, 1) := by decide +kernel
theorem dX10_told_0 : decode cX10_told 0 = .ok (.iload_n 1, 1) := by decide +kernel
theorem dX10_told_1 : decode cX10_told 1 = .ok (.tableswitch 155 0 14 #[75, 91, 99, 155, 155, 155, 155, 155, 155, 155, 115, 123, 131, 139, 147], 75) := by decide +kernel
theorem dX10_told_76 : decode cX10_told 76 = .ok (.aload_n 0, 1) := by decide +kernel
theorem dX10_told_77 : decode cX10_told 77 = .ok (.getfield 48, 3) := by decide +kernel
theorem dX10_told_80 : decode cX10_told 80 = .ok (.invokevirtual 130, 3) := by decide +kernel
theorem dX10_told_83 : decode cX10_told 83 = .ok (.ifCond .eq 7, 3) := by decide +kernel
theorem dX10_told_86 : decode cX10_told 86 = .ok (.iconst 1, 1) := by decide +kernel
theorem dX10_told_87 : decode cX10_told 87 = .ok (.goto 4, 3) := by decide +kernel
theorem dX10_told_90 : decode cX10_told 90 = .ok (.iconst 0, 1) := by decide +kernel
theorem dX10_told_91 : decode cX10_told 91 = .ok (.ireturn, 1) := by decide +kernel
theorem dX10_told_92 : decode cX10_told 92 = .ok (.aload_n 0, 1) := by decide +kernel
theorem dX10_told_93 : decode cX10_told 93 = .ok (.getfield 70, 3) := by decide +kernel
theorem dX10_told_96 : decode cX10_told 96 = .ok (.getfield 192, 3) := by decide +kernel
theorem dX10_told_99 : decode cX10_told 99 = .ok (.ireturn, 1) := by decide +kernel
theorem dX10_told_100 : decode cX10_told 100 = .ok (.aload_n 0, 1) := by decide +kernel
theorem dX10_told_101 : decode cX10_told 101 = .ok (.getfield 70, 3) := by decide +kernel
theorem dX10_told_104 : decode cX10_told 104 = .ok (.getfield 182, 3) := by decide +kernel
theorem dX10_told_107 : decode cX10_told 107 = .ok (.ifCond .eq 7, 3) := by decide +kernel
theorem dX10_told_110 : decode cX10_told 110 = .ok (.iconst 1, 1) := by decide +kernel
theorem dX10_told_111 : decode cX10_told 111 = .ok (.goto 4, 3) := by decide +kernel
theorem dX10_told_114 : decode cX10_told 114 = .ok (.iconst 0, 1) := by decide +kernel
theorem dX10_told_115 : decode cX10_told 115 = .ok (.ireturn, 1) := by decide +kernel
theorem dX10_told_116 : decode cX10_told 116 = .ok (.aload_n 0, 1) := by decide +kernel
theorem dX10_told_117 : decode cX10_told 117 = .ok (.getfield 48, 3) := by decide +kernel
theorem dX10_told_120 : decode cX10_told 120 = .ok (.getfield 195, 3) := by decide +kernel
theorem dX10_told_123 : decode cX10_told 123 = .ok (.ireturn, 1) := by decide +kernel
theorem dX10_told_124 : decode cX10_told 124 = .ok (.aload_n 0, 1) := by decide +kernel
theorem dX10_told_125 : decode cX10_told 125 = .ok (.getfield 48, 3) := by decide +kernel
theorem dX10_told_128 : decode cX10_told 128 = .ok (.getfield 198, 3) := by decide +kernel
theorem dX10_told_131 : decode cX10_told 131 = .ok (.ireturn, 1) := by decide +kernel
theorem dX10_told_132 : decode cX10_told 132 = .ok (.aload_n 0, 1) := by decide +kernel
theorem dX10_told_133 : decode cX10_told 133 = .ok (.getfield 48, 3) := by decide +kernel
theorem dX10_told_136 : decode cX10_told 136 = .ok (.getfield 201, 3) := by decide +kernel
theorem dX10_told_139 : decode cX10_told 139 = .ok (.ireturn, 1) := by decide +kernel
theorem dX10_told_140 : decode cX10_told 140 = .ok (.aload_n 0, 1) := by decide +kernel
theorem dX10_told_141 : decode cX10_told 141 = .ok (.getfield 79, 3) := by decide +kernel
theorem dX10_told_144 : decode cX10_told 144 = .ok (.getfield 204, 3) := by decide +kernel
theorem dX10_told_147 : decode cX10_told 147 = .ok (.ireturn, 1) := by decide +kernel
theorem dX10_told_148 : decode cX10_told 148 = .ok (.aload_n 0, 1) := by decide +kernel
theorem dX10_told_149 : decode cX10_told 149 = .ok (.getfield 79, 3) := by decide +kernel
theorem dX10_told_152 : decode cX10_told 152 = .ok (.getfield 207, 3) := by decide +kernel
theorem dX10_told_155 : decode cX10_told 155 = .ok (.ireturn, 1) := by decide +kernel
theorem dX10_told_156 : decode cX10_told 156 = .ok (.aload_n 0, 1) := by decide +kernel
theorem dX10_told_157 : decode cX10_told 157 = .ok (.getfield 58, 3) := by decide +kernel
theorem dX10_told_160 : decode cX10_told 160 = .ok (.iload_n 1, 1) := by decide +kernel
theorem dX10_told_161 : decode cX10_told 161 = .ok (.invokevirtual 210, 3) := by decide +kernel
theorem dX10_told_164 : decode cX10_told 164 = .ok (.ireturn, 1) := by decide +kernel
theorem dX10_trusted_0 : decode cX10_trusted 0 = .ok (.iload_n 1, 1) := by decide +kernel
theorem dX10_trusted_1 : decode cX10_trusted 1 = .ok (.ifCond .lt 8, 3) := by decide +kernel
theorem dX10_trusted_4 : decode cX10_trusted 4 = .ok (.iload_n 1, 1) := by decide +kernel
theorem dX10_trusted_5 : decode cX10_trusted 5 = .ok (.iconst 4, 1) := by decide +kernel
theorem dX10_trusted_6 : decode cX10_trusted 6 = .ok (.if_icmp .lt 5, 3) := by decide +kernel
theorem dX10_trusted_9 : decode cX10_trusted 9 = .ok (.iconst (-1), 1) := by decide +kernel
theorem dX10_trusted_10 : decode cX10_trusted 10 = .ok (.ireturn, 1) := by decide +kernel
theorem dX10_trusted_11 : decode cX10_trusted 11 = .ok (.aload_n 0, 1) := by decide +kernel
theorem dX10_trusted_12 : decode cX10_trusted 12 = .ok (.getfield 20, 3) := by decide +kernel
theorem dX10_trusted_15 : decode cX10_trusted 15 = .ok (.iload_n 1, 1) := by decide +kernel
theorem dX10_trusted_16 : decode cX10_trusted 16 = .ok (.aaload, 1) := by decide +kernel
theorem dX10_trusted_17 : decode cX10_trusted 17 = .ok (.astore 4, 2) := by decide +kernel
theorem dX10_trusted_19 : decode cX10_trusted 19 = .ok (.iload_n 2, 1) := by decide +kernel
theorem dX10_trusted_20 : decode cX10_trusted 20 = .ok (.iconst 3, 1) := by decide +kernel
theorem dX10_trusted_21 : decode cX10_trusted 21 = .ok (.if_icmp .ne 9, 3) := by decide +kernel
theorem dX10_trusted_24 : decode cX10_trusted 24 = .ok (.aload 4, 2) := by decide +kernel
theorem dX10_trusted_26 : decode cX10_trusted 26 = .ok (.invokevirtual 213, 3) := by decide +kernel
theorem dX10_trusted_29 : decode cX10_trusted 29 = .ok (.ireturn, 1) := by decide +kernel
theorem dX10_trusted_30 : decode cX10_trusted 30 = .ok (.aload 4, 2) := by decide +kernel
theorem dX10_trusted_32 : decode cX10_trusted 32 = .ok (.invokevirtual 216, 3) := by decide +kernel
theorem dX10_trusted_35 : decode cX10_trusted 35 = .ok (.ifCond .ne 14, 3) := by decide +kernel
theorem dX10_trusted_38 : decode cX10_trusted 38 = .ok (.iload_n 2, 1) := by decide +kernel
theorem dX10_trusted_39 : decode cX10_trusted 39 = .ok (.ifCond .ne 8, 3) := by decide +kernel
theorem dX10_trusted_42 : decode cX10_trusted 42 = .ok (.bipush (-2), 2) := by decide +kernel
theorem dX10_trusted_44 : decode cX10_trusted 44 = .ok (.goto 4, 3) := by decide +kernel
theorem dX10_trusted_47 : decode cX10_trusted 47 = .ok (.iconst (-1), 1) := by decide +kernel
theorem dX10_trusted_48 : decode cX10_trusted 48 = .ok (.ireturn, 1) := by decide +kernel
theorem dX10_trusted_49 : decode cX10_trusted 49 = .ok (.aload 4, 2) := by decide +kernel
theorem dX10_trusted_51 : decode cX10_trusted 51 = .ok (.invokevirtual 219, 3) := by decide +kernel
theorem dX10_trusted_54 : decode cX10_trusted 54 = .ok (.iload_n 2, 1) := by decide +kernel
theorem dX10_trusted_55 : decode cX10_trusted 55 = .ok (.iload_n 3, 1) := by decide +kernel
theorem dX10_trusted_56 : decode cX10_trusted 56 = .ok (.invokevirtual 223, 3) := by decide +kernel
theorem dX10_trusted_59 : decode cX10_trusted 59 = .ok (.ireturn, 1) := by decide +kernel
theorem dX10_flash_0 : decode cX10_flash 0 = .ok (.iload_n 1, 1) := by decide +kernel
theorem dX10_flash_1 : decode cX10_flash 1 = .ok (.ifCond .lt 20, 3) := by decide +kernel
theorem dX10_flash_4 : decode cX10_flash 4 = .ok (.iload_n 1, 1) := by decide +kernel
theorem dX10_flash_5 : decode cX10_flash 5 = .ok (.bipush 26, 2) := by decide +kernel
theorem dX10_flash_7 : decode cX10_flash 7 = .ok (.if_icmp .ge 14, 3) := by decide +kernel
theorem dX10_flash_10 : decode cX10_flash 10 = .ok (.iload_n 2, 1) := by decide +kernel
theorem dX10_flash_11 : decode cX10_flash 11 = .ok (.ifCond .lt 10, 3) := by decide +kernel
theorem dX10_flash_14 : decode cX10_flash 14 = .ok (.iload_n 2, 1) := by decide +kernel
theorem dX10_flash_15 : decode cX10_flash 15 = .ok (.sipush 128, 3) := by decide +kernel
theorem dX10_flash_18 : decode cX10_flash 18 = .ok (.if_icmp .lt 5, 3) := by decide +kernel
theorem dX10_flash_21 : decode cX10_flash 21 = .ok (.iconst (-1), 1) := by decide +kernel
theorem dX10_flash_22 : decode cX10_flash 22 = .ok (.ireturn, 1) := by decide +kernel
theorem dX10_flash_23 : decode cX10_flash 23 = .ok (.aload_n 0, 1) := by decide +kernel
theorem dX10_flash_24 : decode cX10_flash 24 = .ok (.getfield 48, 3) := by decide +kernel
theorem dX10_flash_27 : decode cX10_flash 27 = .ok (.getfield 227, 3) := by decide +kernel
theorem dX10_flash_30 : decode cX10_flash 30 = .ok (.iload_n 1, 1) := by decide +kernel
theorem dX10_flash_31 : decode cX10_flash 31 = .ok (.sipush 128, 3) := by decide +kernel
theorem dX10_flash_34 : decode cX10_flash 34 = .ok (.imul, 1) := by decide +kernel
theorem dX10_flash_35 : decode cX10_flash 35 = .ok (.iload_n 2, 1) := by decide +kernel
theorem dX10_flash_36 : decode cX10_flash 36 = .ok (.iadd, 1) := by decide +kernel
theorem dX10_flash_37 : decode cX10_flash 37 = .ok (.invokevirtual 98, 3) := by decide +kernel
theorem dX10_flash_40 : decode cX10_flash 40 = .ok (.ireturn, 1) := by decide +kernel
theorem dX10_digest_0 : decode cX10_digest 0 = .ok (.aload_n 0, 1) := by decide +kernel
theorem dX10_digest_1 : decode cX10_digest 1 = .ok (.getfield 14, 3) := by decide +kernel
theorem dX10_digest_4 : decode cX10_digest 4 = .ok (.iconst 0, 1) := by decide +kernel
theorem dX10_digest_5 : decode cX10_digest 5 = .ok (.aload_n 0, 1) := by decide +kernel
theorem dX10_digest_6 : decode cX10_digest 6 = .ok (.getfield 14, 3) := by decide +kernel
theorem dX10_digest_9 : decode cX10_digest 9 = .ok (.invokevirtual 83, 3) := by decide +kernel
theorem dX10_digest_12 : decode cX10_digest 12 = .ok (.invokevirtual 230, 3) := by decide +kernel
theorem dX10_digest_15 : decode cX10_digest 15 = .ok (.lreturn, 1) := by decide +kernel
theorem dX10_unlessDown_0 : decode cX10_unlessDown 0 = .ok (.aload_n 0, 1) := by decide +kernel
theorem dX10_unlessDown_1 : decode cX10_unlessDown 1 = .ok (.getfield 48, 3) := by decide +kernel
theorem dX10_unlessDown_4 : decode cX10_unlessDown 4 = .ok (.invokevirtual 130, 3) := by decide +kernel
theorem dX10_unlessDown_7 : decode cX10_unlessDown 7 = .ok (.ifCond .ne 5, 3) := by decide +kernel
theorem dX10_unlessDown_10 : decode cX10_unlessDown 10 = .ok (.iload_n 1, 1) := by decide +kernel
theorem dX10_unlessDown_11 : decode cX10_unlessDown 11 = .ok (.ireturn, 1) := by decide +kernel
theorem dX10_unlessDown_12 : decode cX10_unlessDown 12 = .ok (.aload_n 0, 1) := by decide +kernel
theorem dX10_unlessDown_13 : decode cX10_unlessDown 13 = .ok (.getfield 79, 3) := by decide +kernel
theorem dX10_unlessDown_16 : decode cX10_unlessDown 16 = .ok (.invokevirtual 171, 3) := by decide +kernel
theorem dX10_unlessDown_19 : decode cX10_unlessDown 19 = .ok (.aload_n 0, 1) := by decide +kernel
theorem dX10_unlessDown_20 : decode cX10_unlessDown 20 = .ok (.getfield 70, 3) := by decide +kernel
theorem dX10_unlessDown_23 : decode cX10_unlessDown 23 = .ok (.invokevirtual 234, 3) := by decide +kernel
theorem dX10_unlessDown_26 : decode cX10_unlessDown 26 = .ok (.bipush (-3), 2) := by decide +kernel
theorem dX10_unlessDown_28 : decode cX10_unlessDown 28 = .ok (.ireturn, 1) := by decide +kernel
theorem dL_cell_0 : decode cL_cell 0 = .ok (.iload_n 1, 1) := by decide +kernel
theorem dL_cell_1 : decode cL_cell 1 = .ok (.aload_n 0, 1) := by decide +kernel
theorem dL_cell_2 : decode cL_cell 2 = .ok (.arraylength, 1) := by decide +kernel
theorem dL_cell_3 : decode cL_cell 3 = .ok (.if_icmp .ge 9, 3) := by decide +kernel
theorem dL_cell_6 : decode cL_cell 6 = .ok (.aload_n 0, 1) := by decide +kernel
theorem dL_cell_7 : decode cL_cell 7 = .ok (.iload_n 1, 1) := by decide +kernel
theorem dL_cell_8 : decode cL_cell 8 = .ok (.iaload, 1) := by decide +kernel
theorem dL_cell_9 : decode cL_cell 9 = .ok (.goto 4, 3) := by decide +kernel
theorem dL_cell_12 : decode cL_cell 12 = .ok (.iconst 0, 1) := by decide +kernel
theorem dL_cell_13 : decode cL_cell 13 = .ok (.ireturn, 1) := by decide +kernel
theorem dL_law_0 : decode cL_law 0 = .ok (.new 7, 3) := by decide +kernel
theorem dL_law_3 : decode cL_law 3 = .ok (.dup, 1) := by decide +kernel
theorem dL_law_4 : decode cL_law 4 = .ok (.aload_n 0, 1) := by decide +kernel
theorem dL_law_5 : decode cL_law 5 = .ok (.iconst 0, 1) := by decide +kernel
theorem dL_law_6 : decode cL_law 6 = .ok (.invokestatic 9, 3) := by decide +kernel
theorem dL_law_9 : decode cL_law 9 = .ok (.invokespecial 15, 3) := by decide +kernel
theorem dL_law_12 : decode cL_law 12 = .ok (.astore_n 1, 1) := by decide +kernel
theorem dL_law_13 : decode cL_law 13 = .ok (.new 18, 3) := by decide +kernel
theorem dL_law_16 : decode cL_law 16 = .ok (.dup, 1) := by decide +kernel
theorem dL_law_17 : decode cL_law 17 = .ok (.aload_n 0, 1) := by decide +kernel
theorem dL_law_18 : decode cL_law 18 = .ok (.iconst 0, 1) := by decide +kernel
theorem dL_law_19 : decode cL_law 19 = .ok (.invokestatic 9, 3) := by decide +kernel
theorem dL_law_22 : decode cL_law 22 = .ok (.invokespecial 20, 3) := by decide +kernel
theorem dL_law_25 : decode cL_law 25 = .ok (.astore_n 2, 1) := by decide +kernel
theorem dL_law_26 : decode cL_law 26 = .ok (.iconst 1, 1) := by decide +kernel
theorem dL_law_27 : decode cL_law 27 = .ok (.istore_n 3, 1) := by decide +kernel
theorem dL_law_28 : decode cL_law 28 = .ok (.iload_n 3, 1) := by decide +kernel
theorem dL_law_29 : decode cL_law 29 = .ok (.aload_n 0, 1) := by decide +kernel
theorem dL_law_30 : decode cL_law 30 = .ok (.arraylength, 1) := by decide +kernel
theorem dL_law_31 : decode cL_law 31 = .ok (.bipush 6, 2) := by decide +kernel
theorem dL_law_33 : decode cL_law 33 = .ok (.isub, 1) := by decide +kernel
theorem dL_law_34 : decode cL_law 34 = .ok (.if_icmp .gt 756, 3) := by decide +kernel
theorem dL_law_37 : decode cL_law 37 = .ok (.aload_n 0, 1) := by decide +kernel
theorem dL_law_38 : decode cL_law 38 = .ok (.iload_n 3, 1) := by decide +kernel
theorem dL_law_39 : decode cL_law 39 = .ok (.iaload, 1) := by decide +kernel
theorem dL_law_40 : decode cL_law 40 = .ok (.bipush 31, 2) := by decide +kernel
theorem dL_law_42 : decode cL_law 42 = .ok (.iand, 1) := by decide +kernel
theorem dL_law_43 : decode cL_law 43 = .ok (.tableswitch 741 0 22 #[105, 168, 191, 214, 257, 300, 313, 356, 379, 392, 425, 458, 481, 494, 507, 530, 543, 576, 589, 628, 651, 694, 727], 105) := by decide +kernel
theorem dL_law_148 : decode cL_law 148 = .ok (.aload_n 1, 1) := by decide +kernel
theorem dL_law_149 : decode cL_law 149 = .ok (.aload_n 0, 1) := by decide +kernel
theorem dL_law_150 : decode cL_law 150 = .ok (.iload_n 3, 1) := by decide +kernel
theorem dL_law_151 : decode cL_law 151 = .ok (.iconst 1, 1) := by decide +kernel
theorem dL_law_152 : decode cL_law 152 = .ok (.iadd, 1) := by decide +kernel
theorem dL_law_153 : decode cL_law 153 = .ok (.iaload, 1) := by decide +kernel
theorem dL_law_154 : decode cL_law 154 = .ok (.aload_n 0, 1) := by decide +kernel
theorem dL_law_155 : decode cL_law 155 = .ok (.iload_n 3, 1) := by decide +kernel
theorem dL_law_156 : decode cL_law 156 = .ok (.iconst 2, 1) := by decide +kernel
theorem dL_law_157 : decode cL_law 157 = .ok (.iadd, 1) := by decide +kernel
theorem dL_law_158 : decode cL_law 158 = .ok (.iaload, 1) := by decide +kernel
theorem dL_law_159 : decode cL_law 159 = .ok (.aload_n 0, 1) := by decide +kernel
theorem dL_law_160 : decode cL_law 160 = .ok (.iload_n 3, 1) := by decide +kernel
theorem dL_law_161 : decode cL_law 161 = .ok (.iconst 3, 1) := by decide +kernel
theorem dL_law_162 : decode cL_law 162 = .ok (.iadd, 1) := by decide +kernel
theorem dL_law_163 : decode cL_law 163 = .ok (.iaload, 1) := by decide +kernel
theorem dL_law_164 : decode cL_law 164 = .ok (.aload_n 0, 1) := by decide +kernel
theorem dL_law_165 : decode cL_law 165 = .ok (.iload_n 3, 1) := by decide +kernel
theorem dL_law_166 : decode cL_law 166 = .ok (.iconst 4, 1) := by decide +kernel
theorem dL_law_167 : decode cL_law 167 = .ok (.iadd, 1) := by decide +kernel
theorem dL_law_168 : decode cL_law 168 = .ok (.iaload, 1) := by decide +kernel
theorem dL_law_169 : decode cL_law 169 = .ok (.aload_n 0, 1) := by decide +kernel
theorem dL_law_170 : decode cL_law 170 = .ok (.iload_n 3, 1) := by decide +kernel
theorem dL_law_171 : decode cL_law 171 = .ok (.iconst 5, 1) := by decide +kernel
theorem dL_law_172 : decode cL_law 172 = .ok (.iadd, 1) := by decide +kernel
theorem dL_law_173 : decode cL_law 173 = .ok (.iaload, 1) := by decide +kernel
theorem dL_law_174 : decode cL_law 174 = .ok (.invokevirtual 21, 3) := by decide +kernel
theorem dL_law_177 : decode cL_law 177 = .ok (.aload_n 2, 1) := by decide +kernel
theorem dL_law_178 : decode cL_law 178 = .ok (.aload_n 0, 1) := by decide +kernel
theorem dL_law_179 : decode cL_law 179 = .ok (.iload_n 3, 1) := by decide +kernel
theorem dL_law_180 : decode cL_law 180 = .ok (.iconst 1, 1) := by decide +kernel
theorem dL_law_181 : decode cL_law 181 = .ok (.iadd, 1) := by decide +kernel
theorem dL_law_182 : decode cL_law 182 = .ok (.iaload, 1) := by decide +kernel
theorem dL_law_183 : decode cL_law 183 = .ok (.aload_n 0, 1) := by decide +kernel
theorem dL_law_184 : decode cL_law 184 = .ok (.iload_n 3, 1) := by decide +kernel
theorem dL_law_185 : decode cL_law 185 = .ok (.iconst 2, 1) := by decide +kernel
theorem dL_law_186 : decode cL_law 186 = .ok (.iadd, 1) := by decide +kernel
theorem dL_law_187 : decode cL_law 187 = .ok (.iaload, 1) := by decide +kernel
theorem dL_law_188 : decode cL_law 188 = .ok (.aload_n 0, 1) := by decide +kernel
theorem dL_law_189 : decode cL_law 189 = .ok (.iload_n 3, 1) := by decide +kernel
theorem dL_law_190 : decode cL_law 190 = .ok (.iconst 3, 1) := by decide +kernel
theorem dL_law_191 : decode cL_law 191 = .ok (.iadd, 1) := by decide +kernel
theorem dL_law_192 : decode cL_law 192 = .ok (.iaload, 1) := by decide +kernel
theorem dL_law_193 : decode cL_law 193 = .ok (.aload_n 0, 1) := by decide +kernel
theorem dL_law_194 : decode cL_law 194 = .ok (.iload_n 3, 1) := by decide +kernel
theorem dL_law_195 : decode cL_law 195 = .ok (.iconst 4, 1) := by decide +kernel
theorem dL_law_196 : decode cL_law 196 = .ok (.iadd, 1) := by decide +kernel
theorem dL_law_197 : decode cL_law 197 = .ok (.iaload, 1) := by decide +kernel
theorem dL_law_198 : decode cL_law 198 = .ok (.aload_n 0, 1) := by decide +kernel
theorem dL_law_199 : decode cL_law 199 = .ok (.iload_n 3, 1) := by decide +kernel
theorem dL_law_200 : decode cL_law 200 = .ok (.iconst 5, 1) := by decide +kernel
theorem dL_law_201 : decode cL_law 201 = .ok (.iadd, 1) := by decide +kernel
theorem dL_law_202 : decode cL_law 202 = .ok (.iaload, 1) := by decide +kernel
theorem dL_law_203 : decode cL_law 203 = .ok (.invokevirtual 25, 3) := by decide +kernel
theorem dL_law_206 : decode cL_law 206 = .ok (.if_icmp .eq 578, 3) := by decide +kernel
theorem dL_law_209 : decode cL_law 209 = .ok (.iconst 0, 1) := by decide +kernel
theorem dL_law_210 : decode cL_law 210 = .ok (.ireturn, 1) := by decide +kernel
theorem dL_law_211 : decode cL_law 211 = .ok (.aload_n 1, 1) := by decide +kernel
theorem dL_law_212 : decode cL_law 212 = .ok (.aload_n 0, 1) := by decide +kernel
theorem dL_law_213 : decode cL_law 213 = .ok (.iload_n 3, 1) := by decide +kernel
theorem dL_law_214 : decode cL_law 214 = .ok (.iconst 1, 1) := by decide +kernel
theorem dL_law_215 : decode cL_law 215 = .ok (.iadd, 1) := by decide +kernel
theorem dL_law_216 : decode cL_law 216 = .ok (.iaload, 1) := by decide +kernel
theorem dL_law_217 : decode cL_law 217 = .ok (.invokevirtual 26, 3) := by decide +kernel
theorem dL_law_220 : decode cL_law 220 = .ok (.aload_n 2, 1) := by decide +kernel
theorem dL_law_221 : decode cL_law 221 = .ok (.aload_n 0, 1) := by decide +kernel
theorem dL_law_222 : decode cL_law 222 = .ok (.iload_n 3, 1) := by decide +kernel
theorem dL_law_223 : decode cL_law 223 = .ok (.iconst 1, 1) := by decide +kernel
theorem dL_law_224 : decode cL_law 224 = .ok (.iadd, 1) := by decide +kernel
theorem dL_law_225 : decode cL_law 225 = .ok (.iaload, 1) := by decide +kernel
theorem dL_law_226 : decode cL_law 226 = .ok (.invokevirtual 30, 3) := by decide +kernel
theorem dL_law_229 : decode cL_law 229 = .ok (.if_icmp .eq 555, 3) := by decide +kernel
theorem dL_law_232 : decode cL_law 232 = .ok (.iconst 0, 1) := by decide +kernel
theorem dL_law_233 : decode cL_law 233 = .ok (.ireturn, 1) := by decide +kernel
theorem dL_law_234 : decode cL_law 234 = .ok (.aload_n 1, 1) := by decide +kernel
theorem dL_law_235 : decode cL_law 235 = .ok (.aload_n 0, 1) := by decide +kernel
theorem dL_law_236 : decode cL_law 236 = .ok (.iload_n 3, 1) := by decide +kernel
theorem dL_law_237 : decode cL_law 237 = .ok (.iconst 1, 1) := by decide +kernel
theorem dL_law_238 : decode cL_law 238 = .ok (.iadd, 1) := by decide +kernel
theorem dL_law_239 : decode cL_law 239 = .ok (.iaload, 1) := by decide +kernel
theorem dL_law_240 : decode cL_law 240 = .ok (.invokevirtual 31, 3) := by decide +kernel
theorem dL_law_243 : decode cL_law 243 = .ok (.aload_n 2, 1) := by decide +kernel
theorem dL_law_244 : decode cL_law 244 = .ok (.aload_n 0, 1) := by decide +kernel
theorem dL_law_245 : decode cL_law 245 = .ok (.iload_n 3, 1) := by decide +kernel
theorem dL_law_246 : decode cL_law 246 = .ok (.iconst 1, 1) := by decide +kernel
theorem dL_law_247 : decode cL_law 247 = .ok (.iadd, 1) := by decide +kernel
theorem dL_law_248 : decode cL_law 248 = .ok (.iaload, 1) := by decide +kernel
theorem dL_law_249 : decode cL_law 249 = .ok (.invokevirtual 34, 3) := by decide +kernel
theorem dL_law_252 : decode cL_law 252 = .ok (.if_icmp .eq 532, 3) := by decide +kernel
theorem dL_law_255 : decode cL_law 255 = .ok (.iconst 0, 1) := by decide +kernel
theorem dL_law_256 : decode cL_law 256 = .ok (.ireturn, 1) := by decide +kernel
theorem dL_law_257 : decode cL_law 257 = .ok (.aload_n 1, 1) := by decide +kernel
theorem dL_law_258 : decode cL_law 258 = .ok (.aload_n 0, 1) := by decide +kernel
theorem dL_law_259 : decode cL_law 259 = .ok (.iload_n 3, 1) := by decide +kernel
theorem dL_law_260 : decode cL_law 260 = .ok (.iconst 1, 1) := by decide +kernel
theorem dL_law_261 : decode cL_law 261 = .ok (.iadd, 1) := by decide +kernel
theorem dL_law_262 : decode cL_law 262 = .ok (.iaload, 1) := by decide +kernel
theorem dL_law_263 : decode cL_law 263 = .ok (.aload_n 0, 1) := by decide +kernel
theorem dL_law_264 : decode cL_law 264 = .ok (.iload_n 3, 1) := by decide +kernel
theorem dL_law_265 : decode cL_law 265 = .ok (.iconst 2, 1) := by decide +kernel
theorem dL_law_266 : decode cL_law 266 = .ok (.iadd, 1) := by decide +kernel
theorem dL_law_267 : decode cL_law 267 = .ok (.iaload, 1) := by decide +kernel
theorem dL_law_268 : decode cL_law 268 = .ok (.aload_n 0, 1) := by decide +kernel
theorem dL_law_269 : decode cL_law 269 = .ok (.iload_n 3, 1) := by decide +kernel
theorem dL_law_270 : decode cL_law 270 = .ok (.iconst 3, 1) := by decide +kernel
theorem dL_law_271 : decode cL_law 271 = .ok (.iadd, 1) := by decide +kernel
theorem dL_law_272 : decode cL_law 272 = .ok (.iaload, 1) := by decide +kernel
theorem dL_law_273 : decode cL_law 273 = .ok (.invokevirtual 35, 3) := by decide +kernel
theorem dL_law_276 : decode cL_law 276 = .ok (.aload_n 2, 1) := by decide +kernel
theorem dL_law_277 : decode cL_law 277 = .ok (.aload_n 0, 1) := by decide +kernel
theorem dL_law_278 : decode cL_law 278 = .ok (.iload_n 3, 1) := by decide +kernel
theorem dL_law_279 : decode cL_law 279 = .ok (.iconst 1, 1) := by decide +kernel
theorem dL_law_280 : decode cL_law 280 = .ok (.iadd, 1) := by decide +kernel
theorem dL_law_281 : decode cL_law 281 = .ok (.iaload, 1) := by decide +kernel
theorem dL_law_282 : decode cL_law 282 = .ok (.aload_n 0, 1) := by decide +kernel
theorem dL_law_283 : decode cL_law 283 = .ok (.iload_n 3, 1) := by decide +kernel
theorem dL_law_284 : decode cL_law 284 = .ok (.iconst 2, 1) := by decide +kernel
theorem dL_law_285 : decode cL_law 285 = .ok (.iadd, 1) := by decide +kernel
theorem dL_law_286 : decode cL_law 286 = .ok (.iaload, 1) := by decide +kernel
theorem dL_law_287 : decode cL_law 287 = .ok (.aload_n 0, 1) := by decide +kernel
theorem dL_law_288 : decode cL_law 288 = .ok (.iload_n 3, 1) := by decide +kernel
theorem dL_law_289 : decode cL_law 289 = .ok (.iconst 3, 1) := by decide +kernel
theorem dL_law_290 : decode cL_law 290 = .ok (.iadd, 1) := by decide +kernel
theorem dL_law_291 : decode cL_law 291 = .ok (.iaload, 1) := by decide +kernel
theorem dL_law_292 : decode cL_law 292 = .ok (.invokevirtual 39, 3) := by decide +kernel
theorem dL_law_295 : decode cL_law 295 = .ok (.if_icmp .eq 489, 3) := by decide +kernel
theorem dL_law_298 : decode cL_law 298 = .ok (.iconst 0, 1) := by decide +kernel
theorem dL_law_299 : decode cL_law 299 = .ok (.ireturn, 1) := by decide +kernel
theorem dL_law_300 : decode cL_law 300 = .ok (.aload_n 1, 1) := by decide +kernel
theorem dL_law_301 : decode cL_law 301 = .ok (.aload_n 0, 1) := by decide +kernel
theorem dL_law_302 : decode cL_law 302 = .ok (.iload_n 3, 1) := by decide +kernel
theorem dL_law_303 : decode cL_law 303 = .ok (.iconst 1, 1) := by decide +kernel
theorem dL_law_304 : decode cL_law 304 = .ok (.iadd, 1) := by decide +kernel
theorem dL_law_305 : decode cL_law 305 = .ok (.iaload, 1) := by decide +kernel
theorem dL_law_306 : decode cL_law 306 = .ok (.aload_n 0, 1) := by decide +kernel
theorem dL_law_307 : decode cL_law 307 = .ok (.iload_n 3, 1) := by decide +kernel
theorem dL_law_308 : decode cL_law 308 = .ok (.iconst 2, 1) := by decide +kernel
theorem dL_law_309 : decode cL_law 309 = .ok (.iadd, 1) := by decide +kernel
theorem dL_law_310 : decode cL_law 310 = .ok (.iaload, 1) := by decide +kernel
theorem dL_law_311 : decode cL_law 311 = .ok (.aload_n 0, 1) := by decide +kernel
theorem dL_law_312 : decode cL_law 312 = .ok (.iload_n 3, 1) := by decide +kernel
theorem dL_law_313 : decode cL_law 313 = .ok (.iconst 3, 1) := by decide +kernel
theorem dL_law_314 : decode cL_law 314 = .ok (.iadd, 1) := by decide +kernel
theorem dL_law_315 : decode cL_law 315 = .ok (.iaload, 1) := by decide +kernel
theorem dL_law_316 : decode cL_law 316 = .ok (.invokevirtual 40, 3) := by decide +kernel
theorem dL_law_319 : decode cL_law 319 = .ok (.aload_n 2, 1) := by decide +kernel
theorem dL_law_320 : decode cL_law 320 = .ok (.aload_n 0, 1) := by decide +kernel
theorem dL_law_321 : decode cL_law 321 = .ok (.iload_n 3, 1) := by decide +kernel
theorem dL_law_322 : decode cL_law 322 = .ok (.iconst 1, 1) := by decide +kernel
theorem dL_law_323 : decode cL_law 323 = .ok (.iadd, 1) := by decide +kernel
theorem dL_law_324 : decode cL_law 324 = .ok (.iaload, 1) := by decide +kernel
theorem dL_law_325 : decode cL_law 325 = .ok (.aload_n 0, 1) := by decide +kernel
theorem dL_law_326 : decode cL_law 326 = .ok (.iload_n 3, 1) := by decide +kernel
theorem dL_law_327 : decode cL_law 327 = .ok (.iconst 2, 1) := by decide +kernel
theorem dL_law_328 : decode cL_law 328 = .ok (.iadd, 1) := by decide +kernel
theorem dL_law_329 : decode cL_law 329 = .ok (.iaload, 1) := by decide +kernel
theorem dL_law_330 : decode cL_law 330 = .ok (.aload_n 0, 1) := by decide +kernel
theorem dL_law_331 : decode cL_law 331 = .ok (.iload_n 3, 1) := by decide +kernel
theorem dL_law_332 : decode cL_law 332 = .ok (.iconst 3, 1) := by decide +kernel
theorem dL_law_333 : decode cL_law 333 = .ok (.iadd, 1) := by decide +kernel
theorem dL_law_334 : decode cL_law 334 = .ok (.iaload, 1) := by decide +kernel
theorem dL_law_335 : decode cL_law 335 = .ok (.invokevirtual 43, 3) := by decide +kernel
theorem dL_law_338 : decode cL_law 338 = .ok (.if_icmp .eq 446, 3) := by decide +kernel
theorem dL_law_341 : decode cL_law 341 = .ok (.iconst 0, 1) := by decide +kernel
theorem dL_law_342 : decode cL_law 342 = .ok (.ireturn, 1) := by decide +kernel
theorem dL_law_343 : decode cL_law 343 = .ok (.aload_n 1, 1) := by decide +kernel
theorem dL_law_344 : decode cL_law 344 = .ok (.invokevirtual 44, 3) := by decide +kernel
theorem dL_law_347 : decode cL_law 347 = .ok (.aload_n 2, 1) := by decide +kernel
theorem dL_law_348 : decode cL_law 348 = .ok (.invokevirtual 48, 3) := by decide +kernel
theorem dL_law_351 : decode cL_law 351 = .ok (.if_icmp .eq 433, 3) := by decide +kernel
theorem dL_law_354 : decode cL_law 354 = .ok (.iconst 0, 1) := by decide +kernel
theorem dL_law_355 : decode cL_law 355 = .ok (.ireturn, 1) := by decide +kernel
theorem dL_law_356 : decode cL_law 356 = .ok (.aload_n 1, 1) := by decide +kernel
theorem dL_law_357 : decode cL_law 357 = .ok (.aload_n 0, 1) := by decide +kernel
theorem dL_law_358 : decode cL_law 358 = .ok (.iload_n 3, 1) := by decide +kernel
theorem dL_law_359 : decode cL_law 359 = .ok (.iconst 1, 1) := by decide +kernel
theorem dL_law_360 : decode cL_law 360 = .ok (.iadd, 1) := by decide +kernel
theorem dL_law_361 : decode cL_law 361 = .ok (.iaload, 1) := by decide +kernel
theorem dL_law_362 : decode cL_law 362 = .ok (.aload_n 0, 1) := by decide +kernel
theorem dL_law_363 : decode cL_law 363 = .ok (.iload_n 3, 1) := by decide +kernel
theorem dL_law_364 : decode cL_law 364 = .ok (.iconst 2, 1) := by decide +kernel
theorem dL_law_365 : decode cL_law 365 = .ok (.iadd, 1) := by decide +kernel
theorem dL_law_366 : decode cL_law 366 = .ok (.iaload, 1) := by decide +kernel
theorem dL_law_367 : decode cL_law 367 = .ok (.aload_n 0, 1) := by decide +kernel
theorem dL_law_368 : decode cL_law 368 = .ok (.iload_n 3, 1) := by decide +kernel
theorem dL_law_369 : decode cL_law 369 = .ok (.iconst 3, 1) := by decide +kernel
theorem dL_law_370 : decode cL_law 370 = .ok (.iadd, 1) := by decide +kernel
theorem dL_law_371 : decode cL_law 371 = .ok (.iaload, 1) := by decide +kernel
theorem dL_law_372 : decode cL_law 372 = .ok (.invokevirtual 49, 3) := by decide +kernel
theorem dL_law_375 : decode cL_law 375 = .ok (.aload_n 2, 1) := by decide +kernel
theorem dL_law_376 : decode cL_law 376 = .ok (.aload_n 0, 1) := by decide +kernel
theorem dL_law_377 : decode cL_law 377 = .ok (.iload_n 3, 1) := by decide +kernel
theorem dL_law_378 : decode cL_law 378 = .ok (.iconst 1, 1) := by decide +kernel
theorem dL_law_379 : decode cL_law 379 = .ok (.iadd, 1) := by decide +kernel
theorem dL_law_380 : decode cL_law 380 = .ok (.iaload, 1) := by decide +kernel
theorem dL_law_381 : decode cL_law 381 = .ok (.aload_n 0, 1) := by decide +kernel
theorem dL_law_382 : decode cL_law 382 = .ok (.iload_n 3, 1) := by decide +kernel
theorem dL_law_383 : decode cL_law 383 = .ok (.iconst 2, 1) := by decide +kernel
theorem dL_law_384 : decode cL_law 384 = .ok (.iadd, 1) := by decide +kernel
theorem dL_law_385 : decode cL_law 385 = .ok (.iaload, 1) := by decide +kernel
theorem dL_law_386 : decode cL_law 386 = .ok (.aload_n 0, 1) := by decide +kernel
theorem dL_law_387 : decode cL_law 387 = .ok (.iload_n 3, 1) := by decide +kernel
theorem dL_law_388 : decode cL_law 388 = .ok (.iconst 3, 1) := by decide +kernel
theorem dL_law_389 : decode cL_law 389 = .ok (.iadd, 1) := by decide +kernel
theorem dL_law_390 : decode cL_law 390 = .ok (.iaload, 1) := by decide +kernel
theorem dL_law_391 : decode cL_law 391 = .ok (.invokevirtual 52, 3) := by decide +kernel
theorem dL_law_394 : decode cL_law 394 = .ok (.if_icmp .eq 390, 3) := by decide +kernel
theorem dL_law_397 : decode cL_law 397 = .ok (.iconst 0, 1) := by decide +kernel
theorem dL_law_398 : decode cL_law 398 = .ok (.ireturn, 1) := by decide +kernel
theorem dL_law_399 : decode cL_law 399 = .ok (.aload_n 1, 1) := by decide +kernel
theorem dL_law_400 : decode cL_law 400 = .ok (.aload_n 0, 1) := by decide +kernel
theorem dL_law_401 : decode cL_law 401 = .ok (.iload_n 3, 1) := by decide +kernel
theorem dL_law_402 : decode cL_law 402 = .ok (.iconst 1, 1) := by decide +kernel
theorem dL_law_403 : decode cL_law 403 = .ok (.iadd, 1) := by decide +kernel
theorem dL_law_404 : decode cL_law 404 = .ok (.iaload, 1) := by decide +kernel
theorem dL_law_405 : decode cL_law 405 = .ok (.invokevirtual 53, 3) := by decide +kernel
theorem dL_law_408 : decode cL_law 408 = .ok (.aload_n 2, 1) := by decide +kernel
theorem dL_law_409 : decode cL_law 409 = .ok (.aload_n 0, 1) := by decide +kernel
theorem dL_law_410 : decode cL_law 410 = .ok (.iload_n 3, 1) := by decide +kernel
theorem dL_law_411 : decode cL_law 411 = .ok (.iconst 1, 1) := by decide +kernel
theorem dL_law_412 : decode cL_law 412 = .ok (.iadd, 1) := by decide +kernel
theorem dL_law_413 : decode cL_law 413 = .ok (.iaload, 1) := by decide +kernel
theorem dL_law_414 : decode cL_law 414 = .ok (.invokevirtual 56, 3) := by decide +kernel
theorem dL_law_417 : decode cL_law 417 = .ok (.if_icmp .eq 367, 3) := by decide +kernel
theorem dL_law_420 : decode cL_law 420 = .ok (.iconst 0, 1) := by decide +kernel
theorem dL_law_421 : decode cL_law 421 = .ok (.ireturn, 1) := by decide +kernel
theorem dL_law_422 : decode cL_law 422 = .ok (.aload_n 1, 1) := by decide +kernel
theorem dL_law_423 : decode cL_law 423 = .ok (.invokevirtual 57, 3) := by decide +kernel
theorem dL_law_426 : decode cL_law 426 = .ok (.aload_n 2, 1) := by decide +kernel
theorem dL_law_427 : decode cL_law 427 = .ok (.invokevirtual 60, 3) := by decide +kernel
theorem dL_law_430 : decode cL_law 430 = .ok (.if_icmp .eq 354, 3) := by decide +kernel
theorem dL_law_433 : decode cL_law 433 = .ok (.iconst 0, 1) := by decide +kernel
theorem dL_law_434 : decode cL_law 434 = .ok (.ireturn, 1) := by decide +kernel
theorem dL_law_435 : decode cL_law 435 = .ok (.aload_n 1, 1) := by decide +kernel
theorem dL_law_436 : decode cL_law 436 = .ok (.aload_n 0, 1) := by decide +kernel
theorem dL_law_437 : decode cL_law 437 = .ok (.iload_n 3, 1) := by decide +kernel
theorem dL_law_438 : decode cL_law 438 = .ok (.iconst 1, 1) := by decide +kernel
theorem dL_law_439 : decode cL_law 439 = .ok (.iadd, 1) := by decide +kernel
theorem dL_law_440 : decode cL_law 440 = .ok (.iaload, 1) := by decide +kernel
theorem dL_law_441 : decode cL_law 441 = .ok (.aload_n 0, 1) := by decide +kernel
theorem dL_law_442 : decode cL_law 442 = .ok (.iload_n 3, 1) := by decide +kernel
theorem dL_law_443 : decode cL_law 443 = .ok (.iconst 2, 1) := by decide +kernel
theorem dL_law_444 : decode cL_law 444 = .ok (.iadd, 1) := by decide +kernel
theorem dL_law_445 : decode cL_law 445 = .ok (.iaload, 1) := by decide +kernel
theorem dL_law_446 : decode cL_law 446 = .ok (.invokevirtual 61, 3) := by decide +kernel
theorem dL_law_449 : decode cL_law 449 = .ok (.aload_n 2, 1) := by decide +kernel
theorem dL_law_450 : decode cL_law 450 = .ok (.aload_n 0, 1) := by decide +kernel
theorem dL_law_451 : decode cL_law 451 = .ok (.iload_n 3, 1) := by decide +kernel
theorem dL_law_452 : decode cL_law 452 = .ok (.iconst 1, 1) := by decide +kernel
theorem dL_law_453 : decode cL_law 453 = .ok (.iadd, 1) := by decide +kernel
theorem dL_law_454 : decode cL_law 454 = .ok (.iaload, 1) := by decide +kernel
theorem dL_law_455 : decode cL_law 455 = .ok (.aload_n 0, 1) := by decide +kernel
theorem dL_law_456 : decode cL_law 456 = .ok (.iload_n 3, 1) := by decide +kernel
theorem dL_law_457 : decode cL_law 457 = .ok (.iconst 2, 1) := by decide +kernel
theorem dL_law_458 : decode cL_law 458 = .ok (.iadd, 1) := by decide +kernel
theorem dL_law_459 : decode cL_law 459 = .ok (.iaload, 1) := by decide +kernel
theorem dL_law_460 : decode cL_law 460 = .ok (.invokevirtual 65, 3) := by decide +kernel
theorem dL_law_463 : decode cL_law 463 = .ok (.if_icmp .eq 321, 3) := by decide +kernel
theorem dL_law_466 : decode cL_law 466 = .ok (.iconst 0, 1) := by decide +kernel
theorem dL_law_467 : decode cL_law 467 = .ok (.ireturn, 1) := by decide +kernel
theorem dL_law_468 : decode cL_law 468 = .ok (.aload_n 1, 1) := by decide +kernel
theorem dL_law_469 : decode cL_law 469 = .ok (.aload_n 0, 1) := by decide +kernel
theorem dL_law_470 : decode cL_law 470 = .ok (.iload_n 3, 1) := by decide +kernel
theorem dL_law_471 : decode cL_law 471 = .ok (.iconst 1, 1) := by decide +kernel
theorem dL_law_472 : decode cL_law 472 = .ok (.iadd, 1) := by decide +kernel
theorem dL_law_473 : decode cL_law 473 = .ok (.iaload, 1) := by decide +kernel
theorem dL_law_474 : decode cL_law 474 = .ok (.aload_n 0, 1) := by decide +kernel
theorem dL_law_475 : decode cL_law 475 = .ok (.iload_n 3, 1) := by decide +kernel
theorem dL_law_476 : decode cL_law 476 = .ok (.iconst 2, 1) := by decide +kernel
theorem dL_law_477 : decode cL_law 477 = .ok (.iadd, 1) := by decide +kernel
theorem dL_law_478 : decode cL_law 478 = .ok (.iaload, 1) := by decide +kernel
theorem dL_law_479 : decode cL_law 479 = .ok (.invokevirtual 66, 3) := by decide +kernel
theorem dL_law_482 : decode cL_law 482 = .ok (.aload_n 2, 1) := by decide +kernel
theorem dL_law_483 : decode cL_law 483 = .ok (.aload_n 0, 1) := by decide +kernel
theorem dL_law_484 : decode cL_law 484 = .ok (.iload_n 3, 1) := by decide +kernel
theorem dL_law_485 : decode cL_law 485 = .ok (.iconst 1, 1) := by decide +kernel
theorem dL_law_486 : decode cL_law 486 = .ok (.iadd, 1) := by decide +kernel
theorem dL_law_487 : decode cL_law 487 = .ok (.iaload, 1) := by decide +kernel
theorem dL_law_488 : decode cL_law 488 = .ok (.aload_n 0, 1) := by decide +kernel
theorem dL_law_489 : decode cL_law 489 = .ok (.iload_n 3, 1) := by decide +kernel
theorem dL_law_490 : decode cL_law 490 = .ok (.iconst 2, 1) := by decide +kernel
theorem dL_law_491 : decode cL_law 491 = .ok (.iadd, 1) := by decide +kernel
theorem dL_law_492 : decode cL_law 492 = .ok (.iaload, 1) := by decide +kernel
theorem dL_law_493 : decode cL_law 493 = .ok (.invokevirtual 69, 3) := by decide +kernel
theorem dL_law_496 : decode cL_law 496 = .ok (.if_icmp .eq 288, 3) := by decide +kernel
theorem dL_law_499 : decode cL_law 499 = .ok (.iconst 0, 1) := by decide +kernel
theorem dL_law_500 : decode cL_law 500 = .ok (.ireturn, 1) := by decide +kernel
theorem dL_law_501 : decode cL_law 501 = .ok (.aload_n 1, 1) := by decide +kernel
theorem dL_law_502 : decode cL_law 502 = .ok (.aload_n 0, 1) := by decide +kernel
theorem dL_law_503 : decode cL_law 503 = .ok (.iload_n 3, 1) := by decide +kernel
theorem dL_law_504 : decode cL_law 504 = .ok (.iconst 1, 1) := by decide +kernel
theorem dL_law_505 : decode cL_law 505 = .ok (.iadd, 1) := by decide +kernel
theorem dL_law_506 : decode cL_law 506 = .ok (.iaload, 1) := by decide +kernel
theorem dL_law_507 : decode cL_law 507 = .ok (.invokevirtual 70, 3) := by decide +kernel
theorem dL_law_510 : decode cL_law 510 = .ok (.aload_n 2, 1) := by decide +kernel
theorem dL_law_511 : decode cL_law 511 = .ok (.aload_n 0, 1) := by decide +kernel
theorem dL_law_512 : decode cL_law 512 = .ok (.iload_n 3, 1) := by decide +kernel
theorem dL_law_513 : decode cL_law 513 = .ok (.iconst 1, 1) := by decide +kernel
theorem dL_law_514 : decode cL_law 514 = .ok (.iadd, 1) := by decide +kernel
theorem dL_law_515 : decode cL_law 515 = .ok (.iaload, 1) := by decide +kernel
theorem dL_law_516 : decode cL_law 516 = .ok (.invokevirtual 73, 3) := by decide +kernel
theorem dL_law_519 : decode cL_law 519 = .ok (.if_icmp .eq 265, 3) := by decide +kernel
theorem dL_law_522 : decode cL_law 522 = .ok (.iconst 0, 1) := by decide +kernel
theorem dL_law_523 : decode cL_law 523 = .ok (.ireturn, 1) := by decide +kernel
theorem dL_law_524 : decode cL_law 524 = .ok (.aload_n 1, 1) := by decide +kernel
theorem dL_law_525 : decode cL_law 525 = .ok (.invokevirtual 74, 3) := by decide +kernel
theorem dL_law_528 : decode cL_law 528 = .ok (.aload_n 2, 1) := by decide +kernel
theorem dL_law_529 : decode cL_law 529 = .ok (.invokevirtual 77, 3) := by decide +kernel
theorem dL_law_532 : decode cL_law 532 = .ok (.if_icmp .eq 252, 3) := by decide +kernel
theorem dL_law_535 : decode cL_law 535 = .ok (.iconst 0, 1) := by decide +kernel
theorem dL_law_536 : decode cL_law 536 = .ok (.ireturn, 1) := by decide +kernel
theorem dL_law_537 : decode cL_law 537 = .ok (.aload_n 1, 1) := by decide +kernel
theorem dL_law_538 : decode cL_law 538 = .ok (.invokevirtual 78, 3) := by decide +kernel
theorem dL_law_541 : decode cL_law 541 = .ok (.aload_n 2, 1) := by decide +kernel
theorem dL_law_542 : decode cL_law 542 = .ok (.invokevirtual 81, 3) := by decide +kernel
theorem dL_law_545 : decode cL_law 545 = .ok (.if_icmp .eq 239, 3) := by decide +kernel
theorem dL_law_548 : decode cL_law 548 = .ok (.iconst 0, 1) := by decide +kernel
theorem dL_law_549 : decode cL_law 549 = .ok (.ireturn, 1) := by decide +kernel
theorem dL_law_550 : decode cL_law 550 = .ok (.aload_n 1, 1) := by decide +kernel
theorem dL_law_551 : decode cL_law 551 = .ok (.aload_n 0, 1) := by decide +kernel
theorem dL_law_552 : decode cL_law 552 = .ok (.iload_n 3, 1) := by decide +kernel
theorem dL_law_553 : decode cL_law 553 = .ok (.iconst 1, 1) := by decide +kernel
theorem dL_law_554 : decode cL_law 554 = .ok (.iadd, 1) := by decide +kernel
theorem dL_law_555 : decode cL_law 555 = .ok (.iaload, 1) := by decide +kernel
theorem dL_law_556 : decode cL_law 556 = .ok (.invokevirtual 82, 3) := by decide +kernel
theorem dL_law_559 : decode cL_law 559 = .ok (.aload_n 2, 1) := by decide +kernel
theorem dL_law_560 : decode cL_law 560 = .ok (.aload_n 0, 1) := by decide +kernel
theorem dL_law_561 : decode cL_law 561 = .ok (.iload_n 3, 1) := by decide +kernel
theorem dL_law_562 : decode cL_law 562 = .ok (.iconst 1, 1) := by decide +kernel
theorem dL_law_563 : decode cL_law 563 = .ok (.iadd, 1) := by decide +kernel
theorem dL_law_564 : decode cL_law 564 = .ok (.iaload, 1) := by decide +kernel
theorem dL_law_565 : decode cL_law 565 = .ok (.invokevirtual 85, 3) := by decide +kernel
theorem dL_law_568 : decode cL_law 568 = .ok (.if_icmp .eq 216, 3) := by decide +kernel
theorem dL_law_571 : decode cL_law 571 = .ok (.iconst 0, 1) := by decide +kernel
theorem dL_law_572 : decode cL_law 572 = .ok (.ireturn, 1) := by decide +kernel
theorem dL_law_573 : decode cL_law 573 = .ok (.aload_n 1, 1) := by decide +kernel
theorem dL_law_574 : decode cL_law 574 = .ok (.invokevirtual 86, 3) := by decide +kernel
theorem dL_law_577 : decode cL_law 577 = .ok (.aload_n 2, 1) := by decide +kernel
theorem dL_law_578 : decode cL_law 578 = .ok (.invokevirtual 89, 3) := by decide +kernel
theorem dL_law_581 : decode cL_law 581 = .ok (.if_icmp .eq 203, 3) := by decide +kernel
theorem dL_law_584 : decode cL_law 584 = .ok (.iconst 0, 1) := by decide +kernel
theorem dL_law_585 : decode cL_law 585 = .ok (.ireturn, 1) := by decide +kernel
theorem dL_law_586 : decode cL_law 586 = .ok (.aload_n 1, 1) := by decide +kernel
theorem dL_law_587 : decode cL_law 587 = .ok (.aload_n 0, 1) := by decide +kernel
theorem dL_law_588 : decode cL_law 588 = .ok (.iload_n 3, 1) := by decide +kernel
theorem dL_law_589 : decode cL_law 589 = .ok (.iconst 1, 1) := by decide +kernel
theorem dL_law_590 : decode cL_law 590 = .ok (.iadd, 1) := by decide +kernel
theorem dL_law_591 : decode cL_law 591 = .ok (.iaload, 1) := by decide +kernel
theorem dL_law_592 : decode cL_law 592 = .ok (.aload_n 0, 1) := by decide +kernel
theorem dL_law_593 : decode cL_law 593 = .ok (.iload_n 3, 1) := by decide +kernel
theorem dL_law_594 : decode cL_law 594 = .ok (.iconst 2, 1) := by decide +kernel
theorem dL_law_595 : decode cL_law 595 = .ok (.iadd, 1) := by decide +kernel
theorem dL_law_596 : decode cL_law 596 = .ok (.iaload, 1) := by decide +kernel
theorem dL_law_597 : decode cL_law 597 = .ok (.invokevirtual 90, 3) := by decide +kernel
theorem dL_law_600 : decode cL_law 600 = .ok (.aload_n 2, 1) := by decide +kernel
theorem dL_law_601 : decode cL_law 601 = .ok (.aload_n 0, 1) := by decide +kernel
theorem dL_law_602 : decode cL_law 602 = .ok (.iload_n 3, 1) := by decide +kernel
theorem dL_law_603 : decode cL_law 603 = .ok (.iconst 1, 1) := by decide +kernel
theorem dL_law_604 : decode cL_law 604 = .ok (.iadd, 1) := by decide +kernel
theorem dL_law_605 : decode cL_law 605 = .ok (.iaload, 1) := by decide +kernel
theorem dL_law_606 : decode cL_law 606 = .ok (.aload_n 0, 1) := by decide +kernel
theorem dL_law_607 : decode cL_law 607 = .ok (.iload_n 3, 1) := by decide +kernel
theorem dL_law_608 : decode cL_law 608 = .ok (.iconst 2, 1) := by decide +kernel
theorem dL_law_609 : decode cL_law 609 = .ok (.iadd, 1) := by decide +kernel
theorem dL_law_610 : decode cL_law 610 = .ok (.iaload, 1) := by decide +kernel
theorem dL_law_611 : decode cL_law 611 = .ok (.invokevirtual 93, 3) := by decide +kernel
theorem dL_law_614 : decode cL_law 614 = .ok (.if_icmp .eq 170, 3) := by decide +kernel
theorem dL_law_617 : decode cL_law 617 = .ok (.iconst 0, 1) := by decide +kernel
theorem dL_law_618 : decode cL_law 618 = .ok (.ireturn, 1) := by decide +kernel
theorem dL_law_619 : decode cL_law 619 = .ok (.aload_n 1, 1) := by decide +kernel
theorem dL_law_620 : decode cL_law 620 = .ok (.invokevirtual 94, 3) := by decide +kernel
theorem dL_law_623 : decode cL_law 623 = .ok (.aload_n 2, 1) := by decide +kernel
theorem dL_law_624 : decode cL_law 624 = .ok (.invokevirtual 97, 3) := by decide +kernel
theorem dL_law_627 : decode cL_law 627 = .ok (.if_icmp .eq 157, 3) := by decide +kernel
theorem dL_law_630 : decode cL_law 630 = .ok (.iconst 0, 1) := by decide +kernel
theorem dL_law_631 : decode cL_law 631 = .ok (.ireturn, 1) := by decide +kernel
theorem dL_law_632 : decode cL_law 632 = .ok (.aload_n 1, 1) := by decide +kernel
theorem dL_law_633 : decode cL_law 633 = .ok (.aload_n 0, 1) := by decide +kernel
theorem dL_law_634 : decode cL_law 634 = .ok (.iload_n 3, 1) := by decide +kernel
theorem dL_law_635 : decode cL_law 635 = .ok (.iconst 1, 1) := by decide +kernel
theorem dL_law_636 : decode cL_law 636 = .ok (.iadd, 1) := by decide +kernel
theorem dL_law_637 : decode cL_law 637 = .ok (.iaload, 1) := by decide +kernel
theorem dL_law_638 : decode cL_law 638 = .ok (.ifCond .eq 7, 3) := by decide +kernel
theorem dL_law_641 : decode cL_law 641 = .ok (.iconst 1, 1) := by decide +kernel
theorem dL_law_642 : decode cL_law 642 = .ok (.goto 4, 3) := by decide +kernel
theorem dL_law_645 : decode cL_law 645 = .ok (.iconst 0, 1) := by decide +kernel
theorem dL_law_646 : decode cL_law 646 = .ok (.invokevirtual 98, 3) := by decide +kernel
theorem dL_law_649 : decode cL_law 649 = .ok (.aload_n 2, 1) := by decide +kernel
theorem dL_law_650 : decode cL_law 650 = .ok (.aload_n 0, 1) := by decide +kernel
theorem dL_law_651 : decode cL_law 651 = .ok (.iload_n 3, 1) := by decide +kernel
theorem dL_law_652 : decode cL_law 652 = .ok (.iconst 1, 1) := by decide +kernel
theorem dL_law_653 : decode cL_law 653 = .ok (.iadd, 1) := by decide +kernel
theorem dL_law_654 : decode cL_law 654 = .ok (.iaload, 1) := by decide +kernel
theorem dL_law_655 : decode cL_law 655 = .ok (.ifCond .eq 7, 3) := by decide +kernel
theorem dL_law_658 : decode cL_law 658 = .ok (.iconst 1, 1) := by decide +kernel
theorem dL_law_659 : decode cL_law 659 = .ok (.goto 4, 3) := by decide +kernel
theorem dL_law_662 : decode cL_law 662 = .ok (.iconst 0, 1) := by decide +kernel
theorem dL_law_663 : decode cL_law 663 = .ok (.invokevirtual 102, 3) := by decide +kernel
theorem dL_law_666 : decode cL_law 666 = .ok (.if_icmp .eq 118, 3) := by decide +kernel
theorem dL_law_669 : decode cL_law 669 = .ok (.iconst 0, 1) := by decide +kernel
theorem dL_law_670 : decode cL_law 670 = .ok (.ireturn, 1) := by decide +kernel
theorem dL_law_671 : decode cL_law 671 = .ok (.aload_n 1, 1) := by decide +kernel
theorem dL_law_672 : decode cL_law 672 = .ok (.aload_n 0, 1) := by decide +kernel
theorem dL_law_673 : decode cL_law 673 = .ok (.iload_n 3, 1) := by decide +kernel
theorem dL_law_674 : decode cL_law 674 = .ok (.iconst 1, 1) := by decide +kernel
theorem dL_law_675 : decode cL_law 675 = .ok (.iadd, 1) := by decide +kernel
theorem dL_law_676 : decode cL_law 676 = .ok (.iaload, 1) := by decide +kernel
theorem dL_law_677 : decode cL_law 677 = .ok (.invokevirtual 103, 3) := by decide +kernel
theorem dL_law_680 : decode cL_law 680 = .ok (.aload_n 2, 1) := by decide +kernel
theorem dL_law_681 : decode cL_law 681 = .ok (.aload_n 0, 1) := by decide +kernel
theorem dL_law_682 : decode cL_law 682 = .ok (.iload_n 3, 1) := by decide +kernel
theorem dL_law_683 : decode cL_law 683 = .ok (.iconst 1, 1) := by decide +kernel
theorem dL_law_684 : decode cL_law 684 = .ok (.iadd, 1) := by decide +kernel
theorem dL_law_685 : decode cL_law 685 = .ok (.iaload, 1) := by decide +kernel
theorem dL_law_686 : decode cL_law 686 = .ok (.invokevirtual 106, 3) := by decide +kernel
theorem dL_law_689 : decode cL_law 689 = .ok (.if_icmp .eq 95, 3) := by decide +kernel
theorem dL_law_692 : decode cL_law 692 = .ok (.iconst 0, 1) := by decide +kernel
theorem dL_law_693 : decode cL_law 693 = .ok (.ireturn, 1) := by decide +kernel
theorem dL_law_694 : decode cL_law 694 = .ok (.aload_n 1, 1) := by decide +kernel
theorem dL_law_695 : decode cL_law 695 = .ok (.aload_n 0, 1) := by decide +kernel
theorem dL_law_696 : decode cL_law 696 = .ok (.iload_n 3, 1) := by decide +kernel
theorem dL_law_697 : decode cL_law 697 = .ok (.iconst 1, 1) := by decide +kernel
theorem dL_law_698 : decode cL_law 698 = .ok (.iadd, 1) := by decide +kernel
theorem dL_law_699 : decode cL_law 699 = .ok (.iaload, 1) := by decide +kernel
theorem dL_law_700 : decode cL_law 700 = .ok (.aload_n 0, 1) := by decide +kernel
theorem dL_law_701 : decode cL_law 701 = .ok (.iload_n 3, 1) := by decide +kernel
theorem dL_law_702 : decode cL_law 702 = .ok (.iconst 2, 1) := by decide +kernel
theorem dL_law_703 : decode cL_law 703 = .ok (.iadd, 1) := by decide +kernel
theorem dL_law_704 : decode cL_law 704 = .ok (.iaload, 1) := by decide +kernel
theorem dL_law_705 : decode cL_law 705 = .ok (.aload_n 0, 1) := by decide +kernel
theorem dL_law_706 : decode cL_law 706 = .ok (.iload_n 3, 1) := by decide +kernel
theorem dL_law_707 : decode cL_law 707 = .ok (.iconst 3, 1) := by decide +kernel
theorem dL_law_708 : decode cL_law 708 = .ok (.iadd, 1) := by decide +kernel
theorem dL_law_709 : decode cL_law 709 = .ok (.iaload, 1) := by decide +kernel
theorem dL_law_710 : decode cL_law 710 = .ok (.invokevirtual 107, 3) := by decide +kernel
theorem dL_law_713 : decode cL_law 713 = .ok (.aload_n 2, 1) := by decide +kernel
theorem dL_law_714 : decode cL_law 714 = .ok (.aload_n 0, 1) := by decide +kernel
theorem dL_law_715 : decode cL_law 715 = .ok (.iload_n 3, 1) := by decide +kernel
theorem dL_law_716 : decode cL_law 716 = .ok (.iconst 1, 1) := by decide +kernel
theorem dL_law_717 : decode cL_law 717 = .ok (.iadd, 1) := by decide +kernel
theorem dL_law_718 : decode cL_law 718 = .ok (.iaload, 1) := by decide +kernel
theorem dL_law_719 : decode cL_law 719 = .ok (.aload_n 0, 1) := by decide +kernel
theorem dL_law_720 : decode cL_law 720 = .ok (.iload_n 3, 1) := by decide +kernel
theorem dL_law_721 : decode cL_law 721 = .ok (.iconst 2, 1) := by decide +kernel
theorem dL_law_722 : decode cL_law 722 = .ok (.iadd, 1) := by decide +kernel
theorem dL_law_723 : decode cL_law 723 = .ok (.iaload, 1) := by decide +kernel
theorem dL_law_724 : decode cL_law 724 = .ok (.aload_n 0, 1) := by decide +kernel
theorem dL_law_725 : decode cL_law 725 = .ok (.iload_n 3, 1) := by decide +kernel
theorem dL_law_726 : decode cL_law 726 = .ok (.iconst 3, 1) := by decide +kernel
theorem dL_law_727 : decode cL_law 727 = .ok (.iadd, 1) := by decide +kernel
theorem dL_law_728 : decode cL_law 728 = .ok (.iaload, 1) := by decide +kernel
theorem dL_law_729 : decode cL_law 729 = .ok (.invokevirtual 110, 3) := by decide +kernel
theorem dL_law_732 : decode cL_law 732 = .ok (.if_icmp .eq 52, 3) := by decide +kernel
theorem dL_law_735 : decode cL_law 735 = .ok (.iconst 0, 1) := by decide +kernel
theorem dL_law_736 : decode cL_law 736 = .ok (.ireturn, 1) := by decide +kernel
theorem dL_law_737 : decode cL_law 737 = .ok (.aload_n 1, 1) := by decide +kernel
theorem dL_law_738 : decode cL_law 738 = .ok (.aload_n 0, 1) := by decide +kernel
theorem dL_law_739 : decode cL_law 739 = .ok (.iload_n 3, 1) := by decide +kernel
theorem dL_law_740 : decode cL_law 740 = .ok (.iconst 1, 1) := by decide +kernel
theorem dL_law_741 : decode cL_law 741 = .ok (.iadd, 1) := by decide +kernel
theorem dL_law_742 : decode cL_law 742 = .ok (.iaload, 1) := by decide +kernel
theorem dL_law_743 : decode cL_law 743 = .ok (.aload_n 0, 1) := by decide +kernel
theorem dL_law_744 : decode cL_law 744 = .ok (.iload_n 3, 1) := by decide +kernel
theorem dL_law_745 : decode cL_law 745 = .ok (.iconst 2, 1) := by decide +kernel
theorem dL_law_746 : decode cL_law 746 = .ok (.iadd, 1) := by decide +kernel
theorem dL_law_747 : decode cL_law 747 = .ok (.iaload, 1) := by decide +kernel
theorem dL_law_748 : decode cL_law 748 = .ok (.invokevirtual 111, 3) := by decide +kernel
theorem dL_law_751 : decode cL_law 751 = .ok (.aload_n 2, 1) := by decide +kernel
theorem dL_law_752 : decode cL_law 752 = .ok (.aload_n 0, 1) := by decide +kernel
theorem dL_law_753 : decode cL_law 753 = .ok (.iload_n 3, 1) := by decide +kernel
theorem dL_law_754 : decode cL_law 754 = .ok (.iconst 1, 1) := by decide +kernel
theorem dL_law_755 : decode cL_law 755 = .ok (.iadd, 1) := by decide +kernel
theorem dL_law_756 : decode cL_law 756 = .ok (.iaload, 1) := by decide +kernel
theorem dL_law_757 : decode cL_law 757 = .ok (.aload_n 0, 1) := by decide +kernel
theorem dL_law_758 : decode cL_law 758 = .ok (.iload_n 3, 1) := by decide +kernel
theorem dL_law_759 : decode cL_law 759 = .ok (.iconst 2, 1) := by decide +kernel
theorem dL_law_760 : decode cL_law 760 = .ok (.iadd, 1) := by decide +kernel
theorem dL_law_761 : decode cL_law 761 = .ok (.iaload, 1) := by decide +kernel
theorem dL_law_762 : decode cL_law 762 = .ok (.invokevirtual 114, 3) := by decide +kernel
theorem dL_law_765 : decode cL_law 765 = .ok (.if_icmp .eq 19, 3) := by decide +kernel
theorem dL_law_768 : decode cL_law 768 = .ok (.iconst 0, 1) := by decide +kernel
theorem dL_law_769 : decode cL_law 769 = .ok (.ireturn, 1) := by decide +kernel
theorem dL_law_770 : decode cL_law 770 = .ok (.aload_n 1, 1) := by decide +kernel
theorem dL_law_771 : decode cL_law 771 = .ok (.invokevirtual 115, 3) := by decide +kernel
theorem dL_law_774 : decode cL_law 774 = .ok (.aload_n 2, 1) := by decide +kernel
theorem dL_law_775 : decode cL_law 775 = .ok (.invokevirtual 119, 3) := by decide +kernel
theorem dL_law_778 : decode cL_law 778 = .ok (.lcmp, 1) := by decide +kernel
theorem dL_law_779 : decode cL_law 779 = .ok (.ifCond .eq 5, 3) := by decide +kernel
theorem dL_law_782 : decode cL_law 782 = .ok (.iconst 0, 1) := by decide +kernel
theorem dL_law_783 : decode cL_law 783 = .ok (.ireturn, 1) := by decide +kernel
theorem dL_law_784 : decode cL_law 784 = .ok (.iinc 3 6, 3) := by decide +kernel
theorem dL_law_787 : decode cL_law 787 = .ok (.goto (-759), 3) := by decide +kernel
theorem dL_law_790 : decode cL_law 790 = .ok (.iconst 1, 1) := by decide +kernel
theorem dL_law_791 : decode cL_law 791 = .ok (.ireturn, 1) := by decide +kernel
theorem dJ6_bitCount_0f7a4_0 : decode cJ6_bitCount_0f7a4 0 = .ok (.iload_n 0, 1) := by decide +kernel
theorem dJ6_bitCount_0f7a4_1 : decode cJ6_bitCount_0f7a4 1 = .ok (.iload_n 0, 1) := by decide +kernel
theorem dJ6_bitCount_0f7a4_2 : decode cJ6_bitCount_0f7a4 2 = .ok (.iconst 1, 1) := by decide +kernel
theorem dJ6_bitCount_0f7a4_3 : decode cJ6_bitCount_0f7a4 3 = .ok (.iushr, 1) := by decide +kernel
theorem dJ6_bitCount_0f7a4_4 : decode cJ6_bitCount_0f7a4 4 = .ok (.ldc_w 265, 3) := by decide +kernel
theorem dJ6_bitCount_0f7a4_7 : decode cJ6_bitCount_0f7a4 7 = .ok (.iand, 1) := by decide +kernel
theorem dJ6_bitCount_0f7a4_8 : decode cJ6_bitCount_0f7a4 8 = .ok (.isub, 1) := by decide +kernel
theorem dJ6_bitCount_0f7a4_9 : decode cJ6_bitCount_0f7a4 9 = .ok (.istore_n 0, 1) := by decide +kernel
theorem dJ6_bitCount_0f7a4_10 : decode cJ6_bitCount_0f7a4 10 = .ok (.iload_n 0, 1) := by decide +kernel
theorem dJ6_bitCount_0f7a4_11 : decode cJ6_bitCount_0f7a4 11 = .ok (.ldc_w 266, 3) := by decide +kernel
theorem dJ6_bitCount_0f7a4_14 : decode cJ6_bitCount_0f7a4 14 = .ok (.iand, 1) := by decide +kernel
theorem dJ6_bitCount_0f7a4_15 : decode cJ6_bitCount_0f7a4 15 = .ok (.iload_n 0, 1) := by decide +kernel
theorem dJ6_bitCount_0f7a4_16 : decode cJ6_bitCount_0f7a4 16 = .ok (.iconst 2, 1) := by decide +kernel
theorem dJ6_bitCount_0f7a4_17 : decode cJ6_bitCount_0f7a4 17 = .ok (.iushr, 1) := by decide +kernel
theorem dJ6_bitCount_0f7a4_18 : decode cJ6_bitCount_0f7a4 18 = .ok (.ldc_w 266, 3) := by decide +kernel
theorem dJ6_bitCount_0f7a4_21 : decode cJ6_bitCount_0f7a4 21 = .ok (.iand, 1) := by decide +kernel
theorem dJ6_bitCount_0f7a4_22 : decode cJ6_bitCount_0f7a4 22 = .ok (.iadd, 1) := by decide +kernel
theorem dJ6_bitCount_0f7a4_23 : decode cJ6_bitCount_0f7a4 23 = .ok (.istore_n 0, 1) := by decide +kernel
theorem dJ6_bitCount_0f7a4_24 : decode cJ6_bitCount_0f7a4 24 = .ok (.iload_n 0, 1) := by decide +kernel
theorem dJ6_bitCount_0f7a4_25 : decode cJ6_bitCount_0f7a4 25 = .ok (.iload_n 0, 1) := by decide +kernel
theorem dJ6_bitCount_0f7a4_26 : decode cJ6_bitCount_0f7a4 26 = .ok (.iconst 4, 1) := by decide +kernel
theorem dJ6_bitCount_0f7a4_27 : decode cJ6_bitCount_0f7a4 27 = .ok (.iushr, 1) := by decide +kernel
theorem dJ6_bitCount_0f7a4_28 : decode cJ6_bitCount_0f7a4 28 = .ok (.iadd, 1) := by decide +kernel
theorem dJ6_bitCount_0f7a4_29 : decode cJ6_bitCount_0f7a4 29 = .ok (.ldc_w 267, 3) := by decide +kernel
theorem dJ6_bitCount_0f7a4_32 : decode cJ6_bitCount_0f7a4 32 = .ok (.iand, 1) := by decide +kernel
theorem dJ6_bitCount_0f7a4_33 : decode cJ6_bitCount_0f7a4 33 = .ok (.istore_n 0, 1) := by decide +kernel
theorem dJ6_bitCount_0f7a4_34 : decode cJ6_bitCount_0f7a4 34 = .ok (.iload_n 0, 1) := by decide +kernel
theorem dJ6_bitCount_0f7a4_35 : decode cJ6_bitCount_0f7a4 35 = .ok (.iload_n 0, 1) := by decide +kernel
theorem dJ6_bitCount_0f7a4_36 : decode cJ6_bitCount_0f7a4 36 = .ok (.bipush 8, 2) := by decide +kernel
theorem dJ6_bitCount_0f7a4_38 : decode cJ6_bitCount_0f7a4 38 = .ok (.iushr, 1) := by decide +kernel
theorem dJ6_bitCount_0f7a4_39 : decode cJ6_bitCount_0f7a4 39 = .ok (.iadd, 1) := by decide +kernel
theorem dJ6_bitCount_0f7a4_40 : decode cJ6_bitCount_0f7a4 40 = .ok (.istore_n 0, 1) := by decide +kernel
theorem dJ6_bitCount_0f7a4_41 : decode cJ6_bitCount_0f7a4 41 = .ok (.iload_n 0, 1) := by decide +kernel
theorem dJ6_bitCount_0f7a4_42 : decode cJ6_bitCount_0f7a4 42 = .ok (.iload_n 0, 1) := by decide +kernel
theorem dJ6_bitCount_0f7a4_43 : decode cJ6_bitCount_0f7a4 43 = .ok (.bipush 16, 2) := by decide +kernel
theorem dJ6_bitCount_0f7a4_45 : decode cJ6_bitCount_0f7a4 45 = .ok (.iushr, 1) := by decide +kernel
theorem dJ6_bitCount_0f7a4_46 : decode cJ6_bitCount_0f7a4 46 = .ok (.iadd, 1) := by decide +kernel
theorem dJ6_bitCount_0f7a4_47 : decode cJ6_bitCount_0f7a4 47 = .ok (.istore_n 0, 1) := by decide +kernel
theorem dJ6_bitCount_0f7a4_48 : decode cJ6_bitCount_0f7a4 48 = .ok (.iload_n 0, 1) := by decide +kernel
theorem dJ6_bitCount_0f7a4_49 : decode cJ6_bitCount_0f7a4 49 = .ok (.bipush 63, 2) := by decide +kernel
theorem dJ6_bitCount_0f7a4_51 : decode cJ6_bitCount_0f7a4 51 = .ok (.iand, 1) := by decide +kernel
theorem dJ6_bitCount_0f7a4_52 : decode cJ6_bitCount_0f7a4 52 = .ok (.ireturn, 1) := by decide +kernel
