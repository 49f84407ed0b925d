theorem dX4_init_0 : decode cX4_init 0 = .ok (.aload_n 0, 1) := by decide +kernel
theorem dX4_init_1 : decode cX4_init 1 = .ok (.invokespecial 3, 3) := by decide +kernel
theorem dX4_init_4 : decode cX4_init 4 = .ok (.aload_n 0, 1) := by decide +kernel
theorem dX4_init_5 : decode cX4_init 5 = .ok (.new 9, 3) := by decide +kernel
theorem dX4_init_8 : decode cX4_init 8 = .ok (.dup, 1) := by decide +kernel
theorem dX4_init_9 : decode cX4_init 9 = .ok (.bipush 75, 2) := by decide +kernel
theorem dX4_init_11 : decode cX4_init 11 = .ok (.invokespecial 11, 3) := by decide +kernel
theorem dX4_init_14 : decode cX4_init 14 = .ok (.putfield 14, 3) := by decide +kernel
theorem dX4_init_17 : decode cX4_init 17 = .ok (.aload_n 0, 1) := by decide +kernel
theorem dX4_init_18 : decode cX4_init 18 = .ok (.iconst 4, 1) := by decide +kernel
theorem dX4_init_19 : decode cX4_init 19 = .ok (.newarray .int, 2) := by decide +kernel
theorem dX4_init_21 : decode cX4_init 21 = .ok (.putfield 20, 3) := by decide +kernel
theorem dX4_init_24 : decode cX4_init 24 = .ok (.aload_n 0, 1) := by decide +kernel
theorem dX4_init_25 : decode cX4_init 25 = .ok (.iconst 4, 1) := by decide +kernel
theorem dX4_init_26 : decode cX4_init 26 = .ok (.newarray .int, 2) := by decide +kernel
theorem dX4_init_28 : decode cX4_init 28 = .ok (.putfield 24, 3) := by decide +kernel
theorem dX4_init_31 : decode cX4_init 31 = .ok (.aload_n 0, 1) := by decide +kernel
theorem dX4_init_32 : decode cX4_init 32 = .ok (.iconst 4, 1) := by decide +kernel
theorem dX4_init_33 : decode cX4_init 33 = .ok (.newarray .int, 2) := by decide +kernel
theorem dX4_init_35 : decode cX4_init 35 = .ok (.putfield 27, 3) := by decide +kernel
theorem dX4_init_38 : decode cX4_init 38 = .ok (.aload_n 0, 1) := by decide +kernel
theorem dX4_init_39 : decode cX4_init 39 = .ok (.iconst 4, 1) := by decide +kernel
theorem dX4_init_40 : decode cX4_init 40 = .ok (.newarray .int, 2) := by decide +kernel
theorem dX4_init_42 : decode cX4_init 42 = .ok (.putfield 30, 3) := by decide +kernel
theorem dX4_init_45 : decode cX4_init 45 = .ok (.aload_n 0, 1) := by decide +kernel
theorem dX4_init_46 : decode cX4_init 46 = .ok (.iconst 4, 1) := by decide +kernel
theorem dX4_init_47 : decode cX4_init 47 = .ok (.newarray .long, 2) := by decide +kernel
theorem dX4_init_49 : decode cX4_init 49 = .ok (.putfield 33, 3) := by decide +kernel
theorem dX4_init_52 : decode cX4_init 52 = .ok (.return_, 1) := by decide +kernel
theorem dX4_becomeFactoryRoot_0 : decode cX4_becomeFactoryRoot 0 = .ok (.aload_n 0, 1) := by decide +kernel
theorem dX4_becomeFactoryRoot_1 : decode cX4_becomeFactoryRoot 1 = .ok (.iconst 0, 1) := by decide +kernel
theorem dX4_becomeFactoryRoot_2 : decode cX4_becomeFactoryRoot 2 = .ok (.putfield 37, 3) := by decide +kernel
theorem dX4_becomeFactoryRoot_5 : decode cX4_becomeFactoryRoot 5 = .ok (.aload_n 0, 1) := by decide +kernel
theorem dX4_becomeFactoryRoot_6 : decode cX4_becomeFactoryRoot 6 = .ok (.iconst 1, 1) := by decide +kernel
theorem dX4_becomeFactoryRoot_7 : decode cX4_becomeFactoryRoot 7 = .ok (.putfield 41, 3) := by decide +kernel
theorem dX4_becomeFactoryRoot_10 : decode cX4_becomeFactoryRoot 10 = .ok (.aload_n 0, 1) := by decide +kernel
theorem dX4_becomeFactoryRoot_11 : decode cX4_becomeFactoryRoot 11 = .ok (.ldc2_w 44, 3) := by decide +kernel
theorem dX4_becomeFactoryRoot_14 : decode cX4_becomeFactoryRoot 14 = .ok (.putfield 46, 3) := by decide +kernel
theorem dX4_becomeFactoryRoot_17 : decode cX4_becomeFactoryRoot 17 = .ok (.aload_n 0, 1) := by decide +kernel
theorem dX4_becomeFactoryRoot_18 : decode cX4_becomeFactoryRoot 18 = .ok (.iconst 0, 1) := by decide +kernel
theorem dX4_becomeFactoryRoot_19 : decode cX4_becomeFactoryRoot 19 = .ok (.putfield 50, 3) := by decide +kernel
theorem dX4_becomeFactoryRoot_22 : decode cX4_becomeFactoryRoot 22 = .ok (.iconst 0, 1) := by decide +kernel
theorem dX4_becomeFactoryRoot_23 : decode cX4_becomeFactoryRoot 23 = .ok (.istore_n 1, 1) := by decide +kernel
theorem dX4_becomeFactoryRoot_24 : decode cX4_becomeFactoryRoot 24 = .ok (.iload_n 1, 1) := by decide +kernel
theorem dX4_becomeFactoryRoot_25 : decode cX4_becomeFactoryRoot 25 = .ok (.iconst 4, 1) := by decide +kernel
theorem dX4_becomeFactoryRoot_26 : decode cX4_becomeFactoryRoot 26 = .ok (.if_icmp .ge 31, 3) := by decide +kernel
theorem dX4_becomeFactoryRoot_29 : decode cX4_becomeFactoryRoot 29 = .ok (.aload_n 0, 1) := by decide +kernel
theorem dX4_becomeFactoryRoot_30 : decode cX4_becomeFactoryRoot 30 = .ok (.getfield 20, 3) := by decide +kernel
theorem dX4_becomeFactoryRoot_33 : decode cX4_becomeFactoryRoot 33 = .ok (.iload_n 1, 1) := by decide +kernel
theorem dX4_becomeFactoryRoot_34 : decode cX4_becomeFactoryRoot 34 = .ok (.getstatic 53, 3) := by decide +kernel
theorem dX4_becomeFactoryRoot_37 : decode cX4_becomeFactoryRoot 37 = .ok (.iload_n 1, 1) := by decide +kernel
theorem dX4_becomeFactoryRoot_38 : decode cX4_becomeFactoryRoot 38 = .ok (.iaload, 1) := by decide +kernel
theorem dX4_becomeFactoryRoot_39 : decode cX4_becomeFactoryRoot 39 = .ok (.iastore, 1) := by decide +kernel
theorem dX4_becomeFactoryRoot_40 : decode cX4_becomeFactoryRoot 40 = .ok (.aload_n 0, 1) := by decide +kernel
theorem dX4_becomeFactoryRoot_41 : decode cX4_becomeFactoryRoot 41 = .ok (.getfield 24, 3) := by decide +kernel
theorem dX4_becomeFactoryRoot_44 : decode cX4_becomeFactoryRoot 44 = .ok (.iload_n 1, 1) := by decide +kernel
theorem dX4_becomeFactoryRoot_45 : decode cX4_becomeFactoryRoot 45 = .ok (.getstatic 56, 3) := by decide +kernel
theorem dX4_becomeFactoryRoot_48 : decode cX4_becomeFactoryRoot 48 = .ok (.iload_n 1, 1) := by decide +kernel
theorem dX4_becomeFactoryRoot_49 : decode cX4_becomeFactoryRoot 49 = .ok (.iaload, 1) := by decide +kernel
theorem dX4_becomeFactoryRoot_50 : decode cX4_becomeFactoryRoot 50 = .ok (.iastore, 1) := by decide +kernel
theorem dX4_becomeFactoryRoot_51 : decode cX4_becomeFactoryRoot 51 = .ok (.iinc 1 1, 3) := by decide +kernel
theorem dX4_becomeFactoryRoot_54 : decode cX4_becomeFactoryRoot 54 = .ok (.goto (-30), 3) := by decide +kernel
theorem dX4_becomeFactoryRoot_57 : decode cX4_becomeFactoryRoot 57 = .ok (.return_, 1) := by decide +kernel
theorem dX4_read_0 : decode cX4_read 0 = .ok (.iload_n 3, 1) := by decide +kernel
theorem dX4_read_1 : decode cX4_read 1 = .ok (.bipush 10, 2) := by decide +kernel
theorem dX4_read_3 : decode cX4_read 3 = .ok (.if_icmp .lt 9, 3) := by decide +kernel
theorem dX4_read_6 : decode cX4_read 6 = .ok (.iload_n 3, 1) := by decide +kernel
theorem dX4_read_7 : decode cX4_read 7 = .ok (.bipush 75, 2) := by decide +kernel
theorem dX4_read_9 : decode cX4_read 9 = .ok (.if_icmp .le 5, 3) := by decide +kernel
theorem dX4_read_12 : decode cX4_read 12 = .ok (.iconst 0, 1) := by decide +kernel
theorem dX4_read_13 : decode cX4_read 13 = .ok (.ireturn, 1) := by decide +kernel
theorem dX4_read_14 : decode cX4_read 14 = .ok (.aload_n 0, 1) := by decide +kernel
theorem dX4_read_15 : decode cX4_read 15 = .ok (.getfield 14, 3) := by decide +kernel
theorem dX4_read_18 : decode cX4_read 18 = .ok (.invokevirtual 59, 3) := by decide +kernel
theorem dX4_read_21 : decode cX4_read 21 = .ok (.aload_n 0, 1) := by decide +kernel
theorem dX4_read_22 : decode cX4_read 22 = .ok (.getfield 14, 3) := by decide +kernel
theorem dX4_read_25 : decode cX4_read 25 = .ok (.aload_n 1, 1) := by decide +kernel
theorem dX4_read_26 : decode cX4_read 26 = .ok (.iload_n 2, 1) := by decide +kernel
theorem dX4_read_27 : decode cX4_read 27 = .ok (.iload_n 3, 1) := by decide +kernel
theorem dX4_read_28 : decode cX4_read 28 = .ok (.invokevirtual 62, 3) := by decide +kernel
theorem dX4_read_31 : decode cX4_read 31 = .ok (.aload_n 0, 1) := by decide +kernel
theorem dX4_read_32 : decode cX4_read 32 = .ok (.aload_n 0, 1) := by decide +kernel
theorem dX4_read_33 : decode cX4_read 33 = .ok (.getfield 14, 3) := by decide +kernel
theorem dX4_read_36 : decode cX4_read 36 = .ok (.iconst 0, 1) := by decide +kernel
theorem dX4_read_37 : decode cX4_read 37 = .ok (.invokevirtual 66, 3) := by decide +kernel
theorem dX4_read_40 : decode cX4_read 40 = .ok (.putfield 37, 3) := by decide +kernel
theorem dX4_read_43 : decode cX4_read 43 = .ok (.aload_n 0, 1) := by decide +kernel
theorem dX4_read_44 : decode cX4_read 44 = .ok (.aload_n 0, 1) := by decide +kernel
theorem dX4_read_45 : decode cX4_read 45 = .ok (.getfield 14, 3) := by decide +kernel
theorem dX4_read_48 : decode cX4_read 48 = .ok (.iconst 1, 1) := by decide +kernel
theorem dX4_read_49 : decode cX4_read 49 = .ok (.iconst 2, 1) := by decide +kernel
theorem dX4_read_50 : decode cX4_read 50 = .ok (.invokevirtual 70, 3) := by decide +kernel
theorem dX4_read_53 : decode cX4_read 53 = .ok (.l2i, 1) := by decide +kernel
theorem dX4_read_54 : decode cX4_read 54 = .ok (.putfield 74, 3) := by decide +kernel
theorem dX4_read_57 : decode cX4_read 57 = .ok (.aload_n 0, 1) := by decide +kernel
theorem dX4_read_58 : decode cX4_read 58 = .ok (.invokevirtual 77, 3) := by decide +kernel
theorem dX4_read_61 : decode cX4_read 61 = .ok (.ifCond .eq 10, 3) := by decide +kernel
theorem dX4_read_64 : decode cX4_read 64 = .ok (.aload_n 0, 1) := by decide +kernel
theorem dX4_read_65 : decode cX4_read 65 = .ok (.invokevirtual 81, 3) := by decide +kernel
theorem dX4_read_68 : decode cX4_read 68 = .ok (.ifCond .ne 5, 3) := by decide +kernel
theorem dX4_read_71 : decode cX4_read 71 = .ok (.iconst 0, 1) := by decide +kernel
theorem dX4_read_72 : decode cX4_read 72 = .ok (.ireturn, 1) := by decide +kernel
theorem dX4_read_73 : decode cX4_read 73 = .ok (.aload_n 0, 1) := by decide +kernel
theorem dX4_read_74 : decode cX4_read 74 = .ok (.aload_n 0, 1) := by decide +kernel
theorem dX4_read_75 : decode cX4_read 75 = .ok (.getfield 14, 3) := by decide +kernel
theorem dX4_read_78 : decode cX4_read 78 = .ok (.iconst 3, 1) := by decide +kernel
theorem dX4_read_79 : decode cX4_read 79 = .ok (.aload_n 0, 1) := by decide +kernel
theorem dX4_read_80 : decode cX4_read 80 = .ok (.getfield 74, 3) := by decide +kernel
theorem dX4_read_83 : decode cX4_read 83 = .ok (.invokevirtual 84, 3) := by decide +kernel
theorem dX4_read_86 : decode cX4_read 86 = .ok (.putfield 87, 3) := by decide +kernel
theorem dX4_read_89 : decode cX4_read 89 = .ok (.aload_n 0, 1) := by decide +kernel
theorem dX4_read_90 : decode cX4_read 90 = .ok (.getfield 37, 3) := by decide +kernel
theorem dX4_read_93 : decode cX4_read 93 = .ok (.tableswitch 46 0 3 #[31, 36, 36, 41], 31) := by decide +kernel
theorem dX4_read_124 : decode cX4_read 124 = .ok (.aload_n 0, 1) := by decide +kernel
theorem dX4_read_125 : decode cX4_read 125 = .ok (.invokevirtual 90, 3) := by decide +kernel
theorem dX4_read_128 : decode cX4_read 128 = .ok (.ireturn, 1) := by decide +kernel
theorem dX4_read_129 : decode cX4_read 129 = .ok (.aload_n 0, 1) := by decide +kernel
theorem dX4_read_130 : decode cX4_read 130 = .ok (.invokevirtual 93, 3) := by decide +kernel
theorem dX4_read_133 : decode cX4_read 133 = .ok (.ireturn, 1) := by decide +kernel
theorem dX4_read_134 : decode cX4_read 134 = .ok (.aload_n 0, 1) := by decide +kernel
theorem dX4_read_135 : decode cX4_read 135 = .ok (.invokevirtual 96, 3) := by decide +kernel
theorem dX4_read_138 : decode cX4_read 138 = .ok (.ireturn, 1) := by decide +kernel
theorem dX4_read_139 : decode cX4_read 139 = .ok (.iconst 0, 1) := by decide +kernel
theorem dX4_read_140 : decode cX4_read 140 = .ok (.ireturn, 1) := by decide +kernel
theorem dX4_readHead_0 : decode cX4_readHead 0 = .ok (.aload_n 0, 1) := by decide +kernel
theorem dX4_readHead_1 : decode cX4_readHead 1 = .ok (.getfield 74, 3) := by decide +kernel
theorem dX4_readHead_4 : decode cX4_readHead 4 = .ok (.bipush 6, 2) := by decide +kernel
theorem dX4_readHead_6 : decode cX4_readHead 6 = .ok (.if_icmp .lt 19, 3) := by decide +kernel
theorem dX4_readHead_9 : decode cX4_readHead 9 = .ok (.iconst 3, 1) := by decide +kernel
theorem dX4_readHead_10 : decode cX4_readHead 10 = .ok (.aload_n 0, 1) := by decide +kernel
theorem dX4_readHead_11 : decode cX4_readHead 11 = .ok (.getfield 74, 3) := by decide +kernel
theorem dX4_readHead_14 : decode cX4_readHead 14 = .ok (.iadd, 1) := by decide +kernel
theorem dX4_readHead_15 : decode cX4_readHead 15 = .ok (.aload_n 0, 1) := by decide +kernel
theorem dX4_readHead_16 : decode cX4_readHead 16 = .ok (.getfield 14, 3) := by decide +kernel
theorem dX4_readHead_19 : decode cX4_readHead 19 = .ok (.invokevirtual 99, 3) := by decide +kernel
theorem dX4_readHead_22 : decode cX4_readHead 22 = .ok (.if_icmp .lt 5, 3) := by decide +kernel
theorem dX4_readHead_25 : decode cX4_readHead 25 = .ok (.iconst 0, 1) := by decide +kernel
theorem dX4_readHead_26 : decode cX4_readHead 26 = .ok (.ireturn, 1) := by decide +kernel
theorem dX4_readHead_27 : decode cX4_readHead 27 = .ok (.aload_n 0, 1) := by decide +kernel
theorem dX4_readHead_28 : decode cX4_readHead 28 = .ok (.aload_n 0, 1) := by decide +kernel
theorem dX4_readHead_29 : decode cX4_readHead 29 = .ok (.getfield 14, 3) := by decide +kernel
theorem dX4_readHead_32 : decode cX4_readHead 32 = .ok (.iconst 3, 1) := by decide +kernel
theorem dX4_readHead_33 : decode cX4_readHead 33 = .ok (.iconst 2, 1) := by decide +kernel
theorem dX4_readHead_34 : decode cX4_readHead 34 = .ok (.invokevirtual 70, 3) := by decide +kernel
theorem dX4_readHead_37 : decode cX4_readHead 37 = .ok (.l2i, 1) := by decide +kernel
theorem dX4_readHead_38 : decode cX4_readHead 38 = .ok (.putfield 41, 3) := by decide +kernel
theorem dX4_readHead_41 : decode cX4_readHead 41 = .ok (.aload_n 0, 1) := by decide +kernel
theorem dX4_readHead_42 : decode cX4_readHead 42 = .ok (.aload_n 0, 1) := by decide +kernel
theorem dX4_readHead_43 : decode cX4_readHead 43 = .ok (.getfield 14, 3) := by decide +kernel
theorem dX4_readHead_46 : decode cX4_readHead 46 = .ok (.iconst 5, 1) := by decide +kernel
theorem dX4_readHead_47 : decode cX4_readHead 47 = .ok (.iconst 4, 1) := by decide +kernel
theorem dX4_readHead_48 : decode cX4_readHead 48 = .ok (.invokevirtual 70, 3) := by decide +kernel
theorem dX4_readHead_51 : decode cX4_readHead 51 = .ok (.putfield 46, 3) := by decide +kernel
theorem dX4_readHead_54 : decode cX4_readHead 54 = .ok (.aload_n 0, 1) := by decide +kernel
theorem dX4_readHead_55 : decode cX4_readHead 55 = .ok (.getfield 41, 3) := by decide +kernel
theorem dX4_readHead_58 : decode cX4_readHead 58 = .ok (.ifCond .le 7, 3) := by decide +kernel
theorem dX4_readHead_61 : decode cX4_readHead 61 = .ok (.iconst 1, 1) := by decide +kernel
theorem dX4_readHead_62 : decode cX4_readHead 62 = .ok (.goto 4, 3) := by decide +kernel
theorem dX4_readHead_65 : decode cX4_readHead 65 = .ok (.iconst 0, 1) := by decide +kernel
theorem dX4_readHead_66 : decode cX4_readHead 66 = .ok (.ireturn, 1) := by decide +kernel
theorem dX4_readKeys_0 : decode cX4_readKeys 0 = .ok (.iconst 3, 1) := by decide +kernel
theorem dX4_readKeys_1 : decode cX4_readKeys 1 = .ok (.aload_n 0, 1) := by decide +kernel
theorem dX4_readKeys_2 : decode cX4_readKeys 2 = .ok (.getfield 74, 3) := by decide +kernel
theorem dX4_readKeys_5 : decode cX4_readKeys 5 = .ok (.iadd, 1) := by decide +kernel
theorem dX4_readKeys_6 : decode cX4_readKeys 6 = .ok (.istore_n 1, 1) := by decide +kernel
theorem dX4_readKeys_7 : decode cX4_readKeys 7 = .ok (.aload_n 0, 1) := by decide +kernel
theorem dX4_readKeys_8 : decode cX4_readKeys 8 = .ok (.getfield 14, 3) := by decide +kernel
theorem dX4_readKeys_11 : decode cX4_readKeys 11 = .ok (.iload_n 1, 1) := by decide +kernel
theorem dX4_readKeys_12 : decode cX4_readKeys 12 = .ok (.invokevirtual 66, 3) := by decide +kernel
theorem dX4_readKeys_15 : decode cX4_readKeys 15 = .ok (.istore_n 2, 1) := by decide +kernel
theorem dX4_readKeys_16 : decode cX4_readKeys 16 = .ok (.aload_n 0, 1) := by decide +kernel
theorem dX4_readKeys_17 : decode cX4_readKeys 17 = .ok (.aload_n 0, 1) := by decide +kernel
theorem dX4_readKeys_18 : decode cX4_readKeys 18 = .ok (.getfield 14, 3) := by decide +kernel
theorem dX4_readKeys_21 : decode cX4_readKeys 21 = .ok (.iload_n 1, 1) := by decide +kernel
theorem dX4_readKeys_22 : decode cX4_readKeys 22 = .ok (.iconst 1, 1) := by decide +kernel
theorem dX4_readKeys_23 : decode cX4_readKeys 23 = .ok (.iadd, 1) := by decide +kernel
theorem dX4_readKeys_24 : decode cX4_readKeys 24 = .ok (.iload_n 2, 1) := by decide +kernel
theorem dX4_readKeys_25 : decode cX4_readKeys 25 = .ok (.invokevirtual 103, 3) := by decide +kernel
theorem dX4_readKeys_28 : decode cX4_readKeys 28 = .ok (.putfield 50, 3) := by decide +kernel
theorem dX4_readKeys_31 : decode cX4_readKeys 31 = .ok (.aload_n 0, 1) := by decide +kernel
theorem dX4_readKeys_32 : decode cX4_readKeys 32 = .ok (.getfield 50, 3) := by decide +kernel
theorem dX4_readKeys_35 : decode cX4_readKeys 35 = .ok (.ifCond .lt 22, 3) := by decide +kernel
theorem dX4_readKeys_38 : decode cX4_readKeys 38 = .ok (.iload_n 1, 1) := by decide +kernel
theorem dX4_readKeys_39 : decode cX4_readKeys 39 = .ok (.iconst 1, 1) := by decide +kernel
theorem dX4_readKeys_40 : decode cX4_readKeys 40 = .ok (.iadd, 1) := by decide +kernel
theorem dX4_readKeys_41 : decode cX4_readKeys 41 = .ok (.iload_n 2, 1) := by decide +kernel
theorem dX4_readKeys_42 : decode cX4_readKeys 42 = .ok (.iadd, 1) := by decide +kernel
theorem dX4_readKeys_43 : decode cX4_readKeys 43 = .ok (.aload_n 0, 1) := by decide +kernel
theorem dX4_readKeys_44 : decode cX4_readKeys 44 = .ok (.getfield 14, 3) := by decide +kernel
theorem dX4_readKeys_47 : decode cX4_readKeys 47 = .ok (.invokevirtual 99, 3) := by decide +kernel
theorem dX4_readKeys_50 : decode cX4_readKeys 50 = .ok (.if_icmp .ne 7, 3) := by decide +kernel
theorem dX4_readKeys_53 : decode cX4_readKeys 53 = .ok (.iconst 1, 1) := by decide +kernel
theorem dX4_readKeys_54 : decode cX4_readKeys 54 = .ok (.goto 4, 3) := by decide +kernel
theorem dX4_readKeys_57 : decode cX4_readKeys 57 = .ok (.iconst 0, 1) := by decide +kernel
theorem dX4_readKeys_58 : decode cX4_readKeys 58 = .ok (.ireturn, 1) := by decide +kernel
theorem dX4_readRoot_0 : decode cX4_readRoot 0 = .ok (.bipush 9, 2) := by decide +kernel
theorem dX4_readRoot_2 : decode cX4_readRoot 2 = .ok (.istore_n 1, 1) := by decide +kernel
theorem dX4_readRoot_3 : decode cX4_readRoot 3 = .ok (.iconst 3, 1) := by decide +kernel
theorem dX4_readRoot_4 : decode cX4_readRoot 4 = .ok (.aload_n 0, 1) := by decide +kernel
theorem dX4_readRoot_5 : decode cX4_readRoot 5 = .ok (.getfield 74, 3) := by decide +kernel
theorem dX4_readRoot_8 : decode cX4_readRoot 8 = .ok (.iadd, 1) := by decide +kernel
theorem dX4_readRoot_9 : decode cX4_readRoot 9 = .ok (.istore_n 2, 1) := by decide +kernel
theorem dX4_readRoot_10 : decode cX4_readRoot 10 = .ok (.iconst 0, 1) := by decide +kernel
theorem dX4_readRoot_11 : decode cX4_readRoot 11 = .ok (.istore_n 3, 1) := by decide +kernel
theorem dX4_readRoot_12 : decode cX4_readRoot 12 = .ok (.iload_n 3, 1) := by decide +kernel
theorem dX4_readRoot_13 : decode cX4_readRoot 13 = .ok (.iconst 4, 1) := by decide +kernel
theorem dX4_readRoot_14 : decode cX4_readRoot 14 = .ok (.if_icmp .ge 119, 3) := by decide +kernel
theorem dX4_readRoot_17 : decode cX4_readRoot 17 = .ok (.iload_n 1, 1) := by decide +kernel
theorem dX4_readRoot_18 : decode cX4_readRoot 18 = .ok (.iconst 2, 1) := by decide +kernel
theorem dX4_readRoot_19 : decode cX4_readRoot 19 = .ok (.iadd, 1) := by decide +kernel
theorem dX4_readRoot_20 : decode cX4_readRoot 20 = .ok (.iload_n 2, 1) := by decide +kernel
theorem dX4_readRoot_21 : decode cX4_readRoot 21 = .ok (.if_icmp .le 5, 3) := by decide +kernel
theorem dX4_readRoot_24 : decode cX4_readRoot 24 = .ok (.iconst 0, 1) := by decide +kernel
theorem dX4_readRoot_25 : decode cX4_readRoot 25 = .ok (.ireturn, 1) := by decide +kernel
theorem dX4_readRoot_26 : decode cX4_readRoot 26 = .ok (.aload_n 0, 1) := by decide +kernel
theorem dX4_readRoot_27 : decode cX4_readRoot 27 = .ok (.getfield 14, 3) := by decide +kernel
theorem dX4_readRoot_30 : decode cX4_readRoot 30 = .ok (.iload_n 1, 1) := by decide +kernel
theorem dX4_readRoot_31 : decode cX4_readRoot 31 = .ok (.iconst 1, 1) := by decide +kernel
theorem dX4_readRoot_32 : decode cX4_readRoot 32 = .ok (.iadd, 1) := by decide +kernel
theorem dX4_readRoot_33 : decode cX4_readRoot 33 = .ok (.invokevirtual 66, 3) := by decide +kernel
theorem dX4_readRoot_36 : decode cX4_readRoot 36 = .ok (.istore 4, 2) := by decide +kernel
theorem dX4_readRoot_38 : decode cX4_readRoot 38 = .ok (.iload 4, 2) := by decide +kernel
theorem dX4_readRoot_40 : decode cX4_readRoot 40 = .ok (.iconst 5, 1) := by decide +kernel
theorem dX4_readRoot_41 : decode cX4_readRoot 41 = .ok (.if_icmp .gt 13, 3) := by decide +kernel
theorem dX4_readRoot_44 : decode cX4_readRoot 44 = .ok (.iload_n 1, 1) := by decide +kernel
theorem dX4_readRoot_45 : decode cX4_readRoot 45 = .ok (.iconst 2, 1) := by decide +kernel
theorem dX4_readRoot_46 : decode cX4_readRoot 46 = .ok (.iadd, 1) := by decide +kernel
theorem dX4_readRoot_47 : decode cX4_readRoot 47 = .ok (.iload 4, 2) := by decide +kernel
theorem dX4_readRoot_49 : decode cX4_readRoot 49 = .ok (.iadd, 1) := by decide +kernel
theorem dX4_readRoot_50 : decode cX4_readRoot 50 = .ok (.iload_n 2, 1) := by decide +kernel
theorem dX4_readRoot_51 : decode cX4_readRoot 51 = .ok (.if_icmp .le 5, 3) := by decide +kernel
theorem dX4_readRoot_54 : decode cX4_readRoot 54 = .ok (.iconst 0, 1) := by decide +kernel
theorem dX4_readRoot_55 : decode cX4_readRoot 55 = .ok (.ireturn, 1) := by decide +kernel
theorem dX4_readRoot_56 : decode cX4_readRoot 56 = .ok (.aload_n 0, 1) := by decide +kernel
theorem dX4_readRoot_57 : decode cX4_readRoot 57 = .ok (.getfield 24, 3) := by decide +kernel
theorem dX4_readRoot_60 : decode cX4_readRoot 60 = .ok (.iload_n 3, 1) := by decide +kernel
theorem dX4_readRoot_61 : decode cX4_readRoot 61 = .ok (.aload_n 0, 1) := by decide +kernel
theorem dX4_readRoot_62 : decode cX4_readRoot 62 = .ok (.getfield 14, 3) := by decide +kernel
theorem dX4_readRoot_65 : decode cX4_readRoot 65 = .ok (.iload_n 1, 1) := by decide +kernel
theorem dX4_readRoot_66 : decode cX4_readRoot 66 = .ok (.invokevirtual 66, 3) := by decide +kernel
theorem dX4_readRoot_69 : decode cX4_readRoot 69 = .ok (.iastore, 1) := by decide +kernel
theorem dX4_readRoot_70 : decode cX4_readRoot 70 = .ok (.aload_n 0, 1) := by decide +kernel
theorem dX4_readRoot_71 : decode cX4_readRoot 71 = .ok (.getfield 20, 3) := by decide +kernel
theorem dX4_readRoot_74 : decode cX4_readRoot 74 = .ok (.iload_n 3, 1) := by decide +kernel
theorem dX4_readRoot_75 : decode cX4_readRoot 75 = .ok (.aload_n 0, 1) := by decide +kernel
theorem dX4_readRoot_76 : decode cX4_readRoot 76 = .ok (.getfield 14, 3) := by decide +kernel
theorem dX4_readRoot_79 : decode cX4_readRoot 79 = .ok (.iload_n 1, 1) := by decide +kernel
theorem dX4_readRoot_80 : decode cX4_readRoot 80 = .ok (.iconst 2, 1) := by decide +kernel
theorem dX4_readRoot_81 : decode cX4_readRoot 81 = .ok (.iadd, 1) := by decide +kernel
theorem dX4_readRoot_82 : decode cX4_readRoot 82 = .ok (.iload 4, 2) := by decide +kernel
theorem dX4_readRoot_84 : decode cX4_readRoot 84 = .ok (.invokevirtual 103, 3) := by decide +kernel
theorem dX4_readRoot_87 : decode cX4_readRoot 87 = .ok (.iastore, 1) := by decide +kernel
theorem dX4_readRoot_88 : decode cX4_readRoot 88 = .ok (.aload_n 0, 1) := by decide +kernel
theorem dX4_readRoot_89 : decode cX4_readRoot 89 = .ok (.getfield 20, 3) := by decide +kernel
theorem dX4_readRoot_92 : decode cX4_readRoot 92 = .ok (.iload_n 3, 1) := by decide +kernel
theorem dX4_readRoot_93 : decode cX4_readRoot 93 = .ok (.iaload, 1) := by decide +kernel
theorem dX4_readRoot_94 : decode cX4_readRoot 94 = .ok (.ifCond .lt 24, 3) := by decide +kernel
theorem dX4_readRoot_97 : decode cX4_readRoot 97 = .ok (.aload_n 0, 1) := by decide +kernel
theorem dX4_readRoot_98 : decode cX4_readRoot 98 = .ok (.getfield 24, 3) := by decide +kernel
theorem dX4_readRoot_101 : decode cX4_readRoot 101 = .ok (.iload_n 3, 1) := by decide +kernel
theorem dX4_readRoot_102 : decode cX4_readRoot 102 = .ok (.iaload, 1) := by decide +kernel
theorem dX4_readRoot_103 : decode cX4_readRoot 103 = .ok (.iconst 1, 1) := by decide +kernel
theorem dX4_readRoot_104 : decode cX4_readRoot 104 = .ok (.if_icmp .lt 14, 3) := by decide +kernel
theorem dX4_readRoot_107 : decode cX4_readRoot 107 = .ok (.aload_n 0, 1) := by decide +kernel
theorem dX4_readRoot_108 : decode cX4_readRoot 108 = .ok (.getfield 24, 3) := by decide +kernel
theorem dX4_readRoot_111 : decode cX4_readRoot 111 = .ok (.iload_n 3, 1) := by decide +kernel
theorem dX4_readRoot_112 : decode cX4_readRoot 112 = .ok (.iaload, 1) := by decide +kernel
theorem dX4_readRoot_113 : decode cX4_readRoot 113 = .ok (.iload 4, 2) := by decide +kernel
theorem dX4_readRoot_115 : decode cX4_readRoot 115 = .ok (.if_icmp .le 5, 3) := by decide +kernel
theorem dX4_readRoot_118 : decode cX4_readRoot 118 = .ok (.iconst 0, 1) := by decide +kernel
theorem dX4_readRoot_119 : decode cX4_readRoot 119 = .ok (.ireturn, 1) := by decide +kernel
theorem dX4_readRoot_120 : decode cX4_readRoot 120 = .ok (.iload_n 1, 1) := by decide +kernel
theorem dX4_readRoot_121 : decode cX4_readRoot 121 = .ok (.iconst 2, 1) := by decide +kernel
theorem dX4_readRoot_122 : decode cX4_readRoot 122 = .ok (.iload 4, 2) := by decide +kernel
theorem dX4_readRoot_124 : decode cX4_readRoot 124 = .ok (.iadd, 1) := by decide +kernel
theorem dX4_readRoot_125 : decode cX4_readRoot 125 = .ok (.iadd, 1) := by decide +kernel
theorem dX4_readRoot_126 : decode cX4_readRoot 126 = .ok (.istore_n 1, 1) := by decide +kernel
theorem dX4_readRoot_127 : decode cX4_readRoot 127 = .ok (.iinc 3 1, 3) := by decide +kernel
theorem dX4_readRoot_130 : decode cX4_readRoot 130 = .ok (.goto (-118), 3) := by decide +kernel
theorem dX4_readRoot_133 : decode cX4_readRoot 133 = .ok (.iload_n 1, 1) := by decide +kernel
theorem dX4_readRoot_134 : decode cX4_readRoot 134 = .ok (.iload_n 2, 1) := by decide +kernel
theorem dX4_readRoot_135 : decode cX4_readRoot 135 = .ok (.if_icmp .ne 7, 3) := by decide +kernel
theorem dX4_readRoot_138 : decode cX4_readRoot 138 = .ok (.iconst 1, 1) := by decide +kernel
theorem dX4_readRoot_139 : decode cX4_readRoot 139 = .ok (.goto 4, 3) := by decide +kernel
theorem dX4_readRoot_142 : decode cX4_readRoot 142 = .ok (.iconst 0, 1) := by decide +kernel
theorem dX4_readRoot_143 : decode cX4_readRoot 143 = .ok (.ireturn, 1) := by decide +kernel
theorem dX4_readTold_0 : decode cX4_readTold 0 = .ok (.aload_n 0, 1) := by decide +kernel
theorem dX4_readTold_1 : decode cX4_readTold 1 = .ok (.getfield 74, 3) := by decide +kernel
theorem dX4_readTold_4 : decode cX4_readTold 4 = .ok (.bipush 16, 2) := by decide +kernel
theorem dX4_readTold_6 : decode cX4_readTold 6 = .ok (.if_icmp .eq 5, 3) := by decide +kernel
theorem dX4_readTold_9 : decode cX4_readTold 9 = .ok (.iconst 0, 1) := by decide +kernel
theorem dX4_readTold_10 : decode cX4_readTold 10 = .ok (.ireturn, 1) := by decide +kernel
theorem dX4_readTold_11 : decode cX4_readTold 11 = .ok (.aload_n 0, 1) := by decide +kernel
theorem dX4_readTold_12 : decode cX4_readTold 12 = .ok (.aload_n 0, 1) := by decide +kernel
theorem dX4_readTold_13 : decode cX4_readTold 13 = .ok (.getfield 14, 3) := by decide +kernel
theorem dX4_readTold_16 : decode cX4_readTold 16 = .ok (.bipush 9, 2) := by decide +kernel
theorem dX4_readTold_18 : decode cX4_readTold 18 = .ok (.iconst 2, 1) := by decide +kernel
theorem dX4_readTold_19 : decode cX4_readTold 19 = .ok (.invokevirtual 70, 3) := by decide +kernel
theorem dX4_readTold_22 : decode cX4_readTold 22 = .ok (.l2i, 1) := by decide +kernel
theorem dX4_readTold_23 : decode cX4_readTold 23 = .ok (.putfield 107, 3) := by decide +kernel
theorem dX4_readTold_26 : decode cX4_readTold 26 = .ok (.aload_n 0, 1) := by decide +kernel
theorem dX4_readTold_27 : decode cX4_readTold 27 = .ok (.aload_n 0, 1) := by decide +kernel
theorem dX4_readTold_28 : decode cX4_readTold 28 = .ok (.getfield 14, 3) := by decide +kernel
theorem dX4_readTold_31 : decode cX4_readTold 31 = .ok (.bipush 11, 2) := by decide +kernel
theorem dX4_readTold_33 : decode cX4_readTold 33 = .ok (.bipush 8, 2) := by decide +kernel
theorem dX4_readTold_35 : decode cX4_readTold 35 = .ok (.invokevirtual 70, 3) := by decide +kernel
theorem dX4_readTold_38 : decode cX4_readTold 38 = .ok (.putfield 110, 3) := by decide +kernel
theorem dX4_readTold_41 : decode cX4_readTold 41 = .ok (.aload_n 0, 1) := by decide +kernel
theorem dX4_readTold_42 : decode cX4_readTold 42 = .ok (.getfield 107, 3) := by decide +kernel
theorem dX4_readTold_45 : decode cX4_readTold 45 = .ok (.ifCond .le 7, 3) := by decide +kernel
theorem dX4_readTold_48 : decode cX4_readTold 48 = .ok (.iconst 1, 1) := by decide +kernel
theorem dX4_readTold_49 : decode cX4_readTold 49 = .ok (.goto 4, 3) := by decide +kernel
theorem dX4_readTold_52 : decode cX4_readTold 52 = .ok (.iconst 0, 1) := by decide +kernel
theorem dX4_readTold_53 : decode cX4_readTold 53 = .ok (.ireturn, 1) := by decide +kernel
theorem dX4_readImages_0 : decode cX4_readImages 0 = .ok (.aload_n 0, 1) := by decide +kernel
theorem dX4_readImages_1 : decode cX4_readImages 1 = .ok (.aload_n 0, 1) := by decide +kernel
theorem dX4_readImages_2 : decode cX4_readImages 2 = .ok (.getfield 74, 3) := by decide +kernel
theorem dX4_readImages_5 : decode cX4_readImages 5 = .ok (.bipush 6, 2) := by decide +kernel
theorem dX4_readImages_7 : decode cX4_readImages 7 = .ok (.if_icmp .le 15, 3) := by decide +kernel
theorem dX4_readImages_10 : decode cX4_readImages 10 = .ok (.aload_n 0, 1) := by decide +kernel
theorem dX4_readImages_11 : decode cX4_readImages 11 = .ok (.getfield 14, 3) := by decide +kernel
theorem dX4_readImages_14 : decode cX4_readImages 14 = .ok (.bipush 9, 2) := by decide +kernel
theorem dX4_readImages_16 : decode cX4_readImages 16 = .ok (.invokevirtual 66, 3) := by decide +kernel
theorem dX4_readImages_19 : decode cX4_readImages 19 = .ok (.goto 4, 3) := by decide +kernel
theorem dX4_readImages_22 : decode cX4_readImages 22 = .ok (.iconst (-1), 1) := by decide +kernel
theorem dX4_readImages_23 : decode cX4_readImages 23 = .ok (.putfield 113, 3) := by decide +kernel
theorem dX4_readImages_26 : decode cX4_readImages 26 = .ok (.aload_n 0, 1) := by decide +kernel
theorem dX4_readImages_27 : decode cX4_readImages 27 = .ok (.getfield 113, 3) := by decide +kernel
theorem dX4_readImages_30 : decode cX4_readImages 30 = .ok (.ifCond .lt 28, 3) := by decide +kernel
theorem dX4_readImages_33 : decode cX4_readImages 33 = .ok (.aload_n 0, 1) := by decide +kernel
theorem dX4_readImages_34 : decode cX4_readImages 34 = .ok (.getfield 113, 3) := by decide +kernel
theorem dX4_readImages_37 : decode cX4_readImages 37 = .ok (.iconst 4, 1) := by decide +kernel
theorem dX4_readImages_38 : decode cX4_readImages 38 = .ok (.if_icmp .gt 20, 3) := by decide +kernel
theorem dX4_readImages_41 : decode cX4_readImages 41 = .ok (.aload_n 0, 1) := by decide +kernel
theorem dX4_readImages_42 : decode cX4_readImages 42 = .ok (.getfield 74, 3) := by decide +kernel
theorem dX4_readImages_45 : decode cX4_readImages 45 = .ok (.bipush 7, 2) := by decide +kernel
theorem dX4_readImages_47 : decode cX4_readImages 47 = .ok (.aload_n 0, 1) := by decide +kernel
theorem dX4_readImages_48 : decode cX4_readImages 48 = .ok (.getfield 113, 3) := by decide +kernel
theorem dX4_readImages_51 : decode cX4_readImages 51 = .ok (.bipush 12, 2) := by decide +kernel
theorem dX4_readImages_53 : decode cX4_readImages 53 = .ok (.imul, 1) := by decide +kernel
theorem dX4_readImages_54 : decode cX4_readImages 54 = .ok (.iadd, 1) := by decide +kernel
theorem dX4_readImages_55 : decode cX4_readImages 55 = .ok (.if_icmp .eq 5, 3) := by decide +kernel
theorem dX4_readImages_58 : decode cX4_readImages 58 = .ok (.iconst 0, 1) := by decide +kernel
theorem dX4_readImages_59 : decode cX4_readImages 59 = .ok (.ireturn, 1) := by decide +kernel
theorem dX4_readImages_60 : decode cX4_readImages 60 = .ok (.iconst 0, 1) := by decide +kernel
theorem dX4_readImages_61 : decode cX4_readImages 61 = .ok (.istore_n 1, 1) := by decide +kernel
theorem dX4_readImages_62 : decode cX4_readImages 62 = .ok (.iconst 0, 1) := by decide +kernel
theorem dX4_readImages_63 : decode cX4_readImages 63 = .ok (.istore_n 2, 1) := by decide +kernel
theorem dX4_readImages_64 : decode cX4_readImages 64 = .ok (.iload_n 2, 1) := by decide +kernel
theorem dX4_readImages_65 : decode cX4_readImages 65 = .ok (.aload_n 0, 1) := by decide +kernel
theorem dX4_readImages_66 : decode cX4_readImages 66 = .ok (.getfield 113, 3) := by decide +kernel
theorem dX4_readImages_69 : decode cX4_readImages 69 = .ok (.if_icmp .ge 110, 3) := by decide +kernel
theorem dX4_readImages_72 : decode cX4_readImages 72 = .ok (.bipush 10, 2) := by decide +kernel
theorem dX4_readImages_74 : decode cX4_readImages 74 = .ok (.iload_n 2, 1) := by decide +kernel
theorem dX4_readImages_75 : decode cX4_readImages 75 = .ok (.bipush 12, 2) := by decide +kernel
theorem dX4_readImages_77 : decode cX4_readImages 77 = .ok (.imul, 1) := by decide +kernel
theorem dX4_readImages_78 : decode cX4_readImages 78 = .ok (.iadd, 1) := by decide +kernel
theorem dX4_readImages_79 : decode cX4_readImages 79 = .ok (.istore_n 3, 1) := by decide +kernel
theorem dX4_readImages_80 : decode cX4_readImages 80 = .ok (.aload_n 0, 1) := by decide +kernel
theorem dX4_readImages_81 : decode cX4_readImages 81 = .ok (.getfield 27, 3) := by decide +kernel
theorem dX4_readImages_84 : decode cX4_readImages 84 = .ok (.iload_n 2, 1) := by decide +kernel
theorem dX4_readImages_85 : decode cX4_readImages 85 = .ok (.aload_n 0, 1) := by decide +kernel
theorem dX4_readImages_86 : decode cX4_readImages 86 = .ok (.getfield 14, 3) := by decide +kernel
theorem dX4_readImages_89 : decode cX4_readImages 89 = .ok (.iload_n 3, 1) := by decide +kernel
theorem dX4_readImages_90 : decode cX4_readImages 90 = .ok (.iconst 2, 1) := by decide +kernel
theorem dX4_readImages_91 : decode cX4_readImages 91 = .ok (.invokevirtual 70, 3) := by decide +kernel
theorem dX4_readImages_94 : decode cX4_readImages 94 = .ok (.l2i, 1) := by decide +kernel
theorem dX4_readImages_95 : decode cX4_readImages 95 = .ok (.iastore, 1) := by decide +kernel
theorem dX4_readImages_96 : decode cX4_readImages 96 = .ok (.aload_n 0, 1) := by decide +kernel
theorem dX4_readImages_97 : decode cX4_readImages 97 = .ok (.getfield 30, 3) := by decide +kernel
theorem dX4_readImages_100 : decode cX4_readImages 100 = .ok (.iload_n 2, 1) := by decide +kernel
theorem dX4_readImages_101 : decode cX4_readImages 101 = .ok (.aload_n 0, 1) := by decide +kernel
theorem dX4_readImages_102 : decode cX4_readImages 102 = .ok (.getfield 14, 3) := by decide +kernel
theorem dX4_readImages_105 : decode cX4_readImages 105 = .ok (.iload_n 3, 1) := by decide +kernel
theorem dX4_readImages_106 : decode cX4_readImages 106 = .ok (.iconst 2, 1) := by decide +kernel
theorem dX4_readImages_107 : decode cX4_readImages 107 = .ok (.iadd, 1) := by decide +kernel
theorem dX4_readImages_108 : decode cX4_readImages 108 = .ok (.iconst 2, 1) := by decide +kernel
theorem dX4_readImages_109 : decode cX4_readImages 109 = .ok (.invokevirtual 70, 3) := by decide +kernel
theorem dX4_readImages_112 : decode cX4_readImages 112 = .ok (.l2i, 1) := by decide +kernel
theorem dX4_readImages_113 : decode cX4_readImages 113 = .ok (.iastore, 1) := by decide +kernel
theorem dX4_readImages_114 : decode cX4_readImages 114 = .ok (.aload_n 0, 1) := by decide +kernel
theorem dX4_readImages_115 : decode cX4_readImages 115 = .ok (.getfield 33, 3) := by decide +kernel
theorem dX4_readImages_118 : decode cX4_readImages 118 = .ok (.iload_n 2, 1) := by decide +kernel
theorem dX4_readImages_119 : decode cX4_readImages 119 = .ok (.aload_n 0, 1) := by decide +kernel
theorem dX4_readImages_120 : decode cX4_readImages 120 = .ok (.getfield 14, 3) := by decide +kernel
theorem dX4_readImages_123 : decode cX4_readImages 123 = .ok (.iload_n 3, 1) := by decide +kernel
theorem dX4_readImages_124 : decode cX4_readImages 124 = .ok (.iconst 4, 1) := by decide +kernel
theorem dX4_readImages_125 : decode cX4_readImages 125 = .ok (.iadd, 1) := by decide +kernel
theorem dX4_readImages_126 : decode cX4_readImages 126 = .ok (.bipush 8, 2) := by decide +kernel
theorem dX4_readImages_128 : decode cX4_readImages 128 = .ok (.invokevirtual 70, 3) := by decide +kernel
theorem dX4_readImages_131 : decode cX4_readImages 131 = .ok (.lastore, 1) := by decide +kernel
theorem dX4_readImages_132 : decode cX4_readImages 132 = .ok (.aload_n 0, 1) := by decide +kernel
theorem dX4_readImages_133 : decode cX4_readImages 133 = .ok (.getfield 27, 3) := by decide +kernel
theorem dX4_readImages_136 : decode cX4_readImages 136 = .ok (.iload_n 2, 1) := by decide +kernel
theorem dX4_readImages_137 : decode cX4_readImages 137 = .ok (.iaload, 1) := by decide +kernel
theorem dX4_readImages_138 : decode cX4_readImages 138 = .ok (.iload_n 1, 1) := by decide +kernel
theorem dX4_readImages_139 : decode cX4_readImages 139 = .ok (.if_icmp .le 25, 3) := by decide +kernel
theorem dX4_readImages_142 : decode cX4_readImages 142 = .ok (.aload_n 0, 1) := by decide +kernel
theorem dX4_readImages_143 : decode cX4_readImages 143 = .ok (.getfield 30, 3) := by decide +kernel
theorem dX4_readImages_146 : decode cX4_readImages 146 = .ok (.iload_n 2, 1) := by decide +kernel
theorem dX4_readImages_147 : decode cX4_readImages 147 = .ok (.iaload, 1) := by decide +kernel
theorem dX4_readImages_148 : decode cX4_readImages 148 = .ok (.iconst 1, 1) := by decide +kernel
theorem dX4_readImages_149 : decode cX4_readImages 149 = .ok (.if_icmp .lt 15, 3) := by decide +kernel
theorem dX4_readImages_152 : decode cX4_readImages 152 = .ok (.aload_n 0, 1) := by decide +kernel
theorem dX4_readImages_153 : decode cX4_readImages 153 = .ok (.getfield 30, 3) := by decide +kernel
theorem dX4_readImages_156 : decode cX4_readImages 156 = .ok (.iload_n 2, 1) := by decide +kernel
theorem dX4_readImages_157 : decode cX4_readImages 157 = .ok (.iaload, 1) := by decide +kernel
theorem dX4_readImages_158 : decode cX4_readImages 158 = .ok (.sipush 1024, 3) := by decide +kernel
theorem dX4_readImages_161 : decode cX4_readImages 161 = .ok (.if_icmp .le 5, 3) := by decide +kernel
theorem dX4_readImages_164 : decode cX4_readImages 164 = .ok (.iconst 0, 1) := by decide +kernel
theorem dX4_readImages_165 : decode cX4_readImages 165 = .ok (.ireturn, 1) := by decide +kernel
theorem dX4_readImages_166 : decode cX4_readImages 166 = .ok (.aload_n 0, 1) := by decide +kernel
theorem dX4_readImages_167 : decode cX4_readImages 167 = .ok (.getfield 27, 3) := by decide +kernel
theorem dX4_readImages_170 : decode cX4_readImages 170 = .ok (.iload_n 2, 1) := by decide +kernel
theorem dX4_readImages_171 : decode cX4_readImages 171 = .ok (.iaload, 1) := by decide +kernel
theorem dX4_readImages_172 : decode cX4_readImages 172 = .ok (.istore_n 1, 1) := by decide +kernel
theorem dX4_readImages_173 : decode cX4_readImages 173 = .ok (.iinc 2 1, 3) := by decide +kernel
theorem dX4_readImages_176 : decode cX4_readImages 176 = .ok (.goto (-112), 3) := by decide +kernel
theorem dX4_readImages_179 : decode cX4_readImages 179 = .ok (.iconst 1, 1) := by decide +kernel
theorem dX4_readImages_180 : decode cX4_readImages 180 = .ok (.ireturn, 1) := by decide +kernel
theorem dX4_hasBodyOf_0 : decode cX4_hasBodyOf 0 = .ok (.aload_n 0, 1) := by decide +kernel
theorem dX4_hasBodyOf_1 : decode cX4_hasBodyOf 1 = .ok (.getfield 74, 3) := by decide +kernel
theorem dX4_hasBodyOf_4 : decode cX4_hasBodyOf 4 = .ok (.aload_n 1, 1) := by decide +kernel
theorem dX4_hasBodyOf_5 : decode cX4_hasBodyOf 5 = .ok (.getfield 74, 3) := by decide +kernel
theorem dX4_hasBodyOf_8 : decode cX4_hasBodyOf 8 = .ok (.if_icmp .eq 5, 3) := by decide +kernel
theorem dX4_hasBodyOf_11 : decode cX4_hasBodyOf 11 = .ok (.iconst 0, 1) := by decide +kernel
theorem dX4_hasBodyOf_12 : decode cX4_hasBodyOf 12 = .ok (.ireturn, 1) := by decide +kernel
theorem dX4_hasBodyOf_13 : decode cX4_hasBodyOf 13 = .ok (.iconst 3, 1) := by decide +kernel
theorem dX4_hasBodyOf_14 : decode cX4_hasBodyOf 14 = .ok (.istore_n 2, 1) := by decide +kernel
theorem dX4_hasBodyOf_15 : decode cX4_hasBodyOf 15 = .ok (.iload_n 2, 1) := by decide +kernel
theorem dX4_hasBodyOf_16 : decode cX4_hasBodyOf 16 = .ok (.iconst 3, 1) := by decide +kernel
theorem dX4_hasBodyOf_17 : decode cX4_hasBodyOf 17 = .ok (.aload_n 0, 1) := by decide +kernel
theorem dX4_hasBodyOf_18 : decode cX4_hasBodyOf 18 = .ok (.getfield 74, 3) := by decide +kernel
theorem dX4_hasBodyOf_21 : decode cX4_hasBodyOf 21 = .ok (.iadd, 1) := by decide +kernel
theorem dX4_hasBodyOf_22 : decode cX4_hasBodyOf 22 = .ok (.if_icmp .ge 30, 3) := by decide +kernel
theorem dX4_hasBodyOf_25 : decode cX4_hasBodyOf 25 = .ok (.aload_n 0, 1) := by decide +kernel
theorem dX4_hasBodyOf_26 : decode cX4_hasBodyOf 26 = .ok (.getfield 14, 3) := by decide +kernel
theorem dX4_hasBodyOf_29 : decode cX4_hasBodyOf 29 = .ok (.iload_n 2, 1) := by decide +kernel
theorem dX4_hasBodyOf_30 : decode cX4_hasBodyOf 30 = .ok (.invokevirtual 66, 3) := by decide +kernel
theorem dX4_hasBodyOf_33 : decode cX4_hasBodyOf 33 = .ok (.aload_n 1, 1) := by decide +kernel
theorem dX4_hasBodyOf_34 : decode cX4_hasBodyOf 34 = .ok (.getfield 14, 3) := by decide +kernel
theorem dX4_hasBodyOf_37 : decode cX4_hasBodyOf 37 = .ok (.iload_n 2, 1) := by decide +kernel
theorem dX4_hasBodyOf_38 : decode cX4_hasBodyOf 38 = .ok (.invokevirtual 66, 3) := by decide +kernel
theorem dX4_hasBodyOf_41 : decode cX4_hasBodyOf 41 = .ok (.if_icmp .eq 5, 3) := by decide +kernel
theorem dX4_hasBodyOf_44 : decode cX4_hasBodyOf 44 = .ok (.iconst 0, 1) := by decide +kernel
theorem dX4_hasBodyOf_45 : decode cX4_hasBodyOf 45 = .ok (.ireturn, 1) := by decide +kernel
theorem dX4_hasBodyOf_46 : decode cX4_hasBodyOf 46 = .ok (.iinc 2 1, 3) := by decide +kernel
theorem dX4_hasBodyOf_49 : decode cX4_hasBodyOf 49 = .ok (.goto (-34), 3) := by decide +kernel
theorem dX4_hasBodyOf_52 : decode cX4_hasBodyOf 52 = .ok (.iconst 1, 1) := by decide +kernel
theorem dX4_hasBodyOf_53 : decode cX4_hasBodyOf 53 = .ok (.ireturn, 1) := by decide +kernel
theorem dX4_givesLike_0 : decode cX4_givesLike 0 = .ok (.aload_n 0, 1) := by decide +kernel
theorem dX4_givesLike_1 : decode cX4_givesLike 1 = .ok (.getfield 20, 3) := by decide +kernel
theorem dX4_givesLike_4 : decode cX4_givesLike 4 = .ok (.iload_n 2, 1) := by decide +kernel
theorem dX4_givesLike_5 : decode cX4_givesLike 5 = .ok (.iaload, 1) := by decide +kernel
theorem dX4_givesLike_6 : decode cX4_givesLike 6 = .ok (.aload_n 1, 1) := by decide +kernel
theorem dX4_givesLike_7 : decode cX4_givesLike 7 = .ok (.getfield 20, 3) := by decide +kernel
theorem dX4_givesLike_10 : decode cX4_givesLike 10 = .ok (.iload_n 2, 1) := by decide +kernel
theorem dX4_givesLike_11 : decode cX4_givesLike 11 = .ok (.iaload, 1) := by decide +kernel
theorem dX4_givesLike_12 : decode cX4_givesLike 12 = .ok (.if_icmp .ne 22, 3) := by decide +kernel
theorem dX4_givesLike_15 : decode cX4_givesLike 15 = .ok (.aload_n 0, 1) := by decide +kernel
theorem dX4_givesLike_16 : decode cX4_givesLike 16 = .ok (.getfield 24, 3) := by decide +kernel
theorem dX4_givesLike_19 : decode cX4_givesLike 19 = .ok (.iload_n 2, 1) := by decide +kernel
theorem dX4_givesLike_20 : decode cX4_givesLike 20 = .ok (.iaload, 1) := by decide +kernel
theorem dX4_givesLike_21 : decode cX4_givesLike 21 = .ok (.aload_n 1, 1) := by decide +kernel
theorem dX4_givesLike_22 : decode cX4_givesLike 22 = .ok (.getfield 24, 3) := by decide +kernel
theorem dX4_givesLike_25 : decode cX4_givesLike 25 = .ok (.iload_n 2, 1) := by decide +kernel
theorem dX4_givesLike_26 : decode cX4_givesLike 26 = .ok (.iaload, 1) := by decide +kernel
theorem dX4_givesLike_27 : decode cX4_givesLike 27 = .ok (.if_icmp .ne 7, 3) := by decide +kernel
theorem dX4_givesLike_30 : decode cX4_givesLike 30 = .ok (.iconst 1, 1) := by decide +kernel
theorem dX4_givesLike_31 : decode cX4_givesLike 31 = .ok (.goto 4, 3) := by decide +kernel
theorem dX4_givesLike_34 : decode cX4_givesLike 34 = .ok (.iconst 0, 1) := by decide +kernel
theorem dX4_givesLike_35 : decode cX4_givesLike 35 = .ok (.ireturn, 1) := by decide +kernel
theorem dX4_tell_0 : decode cX4_tell 0 = .ok (.iload_n 1, 1) := by decide +kernel
theorem dX4_tell_1 : decode cX4_tell 1 = .ok (.tableswitch 189 0 9 #[55, 60, 66, 189, 71, 90, 109, 134, 151, 170], 55) := by decide +kernel
theorem dX4_tell_56 : decode cX4_tell 56 = .ok (.aload_n 0, 1) := by decide +kernel
theorem dX4_tell_57 : decode cX4_tell 57 = .ok (.getfield 41, 3) := by decide +kernel
theorem dX4_tell_60 : decode cX4_tell 60 = .ok (.ireturn, 1) := by decide +kernel
theorem dX4_tell_61 : decode cX4_tell 61 = .ok (.aload_n 0, 1) := by decide +kernel
theorem dX4_tell_62 : decode cX4_tell 62 = .ok (.getfield 46, 3) := by decide +kernel
theorem dX4_tell_65 : decode cX4_tell 65 = .ok (.l2i, 1) := by decide +kernel
theorem dX4_tell_66 : decode cX4_tell 66 = .ok (.ireturn, 1) := by decide +kernel
theorem dX4_tell_67 : decode cX4_tell 67 = .ok (.aload_n 0, 1) := by decide +kernel
theorem dX4_tell_68 : decode cX4_tell 68 = .ok (.getfield 50, 3) := by decide +kernel
theorem dX4_tell_71 : decode cX4_tell 71 = .ok (.ireturn, 1) := by decide +kernel
theorem dX4_tell_72 : decode cX4_tell 72 = .ok (.aload_n 0, 1) := by decide +kernel
theorem dX4_tell_73 : decode cX4_tell 73 = .ok (.iload_n 2, 1) := by decide +kernel
theorem dX4_tell_74 : decode cX4_tell 74 = .ok (.invokevirtual 116, 3) := by decide +kernel
theorem dX4_tell_77 : decode cX4_tell 77 = .ok (.ifCond .eq 12, 3) := by decide +kernel
theorem dX4_tell_80 : decode cX4_tell 80 = .ok (.aload_n 0, 1) := by decide +kernel
theorem dX4_tell_81 : decode cX4_tell 81 = .ok (.getfield 20, 3) := by decide +kernel
theorem dX4_tell_84 : decode cX4_tell 84 = .ok (.iload_n 2, 1) := by decide +kernel
theorem dX4_tell_85 : decode cX4_tell 85 = .ok (.iaload, 1) := by decide +kernel
theorem dX4_tell_86 : decode cX4_tell 86 = .ok (.goto 4, 3) := by decide +kernel
theorem dX4_tell_89 : decode cX4_tell 89 = .ok (.iconst (-1), 1) := by decide +kernel
theorem dX4_tell_90 : decode cX4_tell 90 = .ok (.ireturn, 1) := by decide +kernel
theorem dX4_tell_91 : decode cX4_tell 91 = .ok (.aload_n 0, 1) := by decide +kernel
theorem dX4_tell_92 : decode cX4_tell 92 = .ok (.iload_n 2, 1) := by decide +kernel
theorem dX4_tell_93 : decode cX4_tell 93 = .ok (.invokevirtual 116, 3) := by decide +kernel
theorem dX4_tell_96 : decode cX4_tell 96 = .ok (.ifCond .eq 12, 3) := by decide +kernel
theorem dX4_tell_99 : decode cX4_tell 99 = .ok (.aload_n 0, 1) := by decide +kernel
theorem dX4_tell_100 : decode cX4_tell 100 = .ok (.getfield 24, 3) := by decide +kernel
theorem dX4_tell_103 : decode cX4_tell 103 = .ok (.iload_n 2, 1) := by decide +kernel
theorem dX4_tell_104 : decode cX4_tell 104 = .ok (.iaload, 1) := by decide +kernel
theorem dX4_tell_105 : decode cX4_tell 105 = .ok (.goto 4, 3) := by decide +kernel
theorem dX4_tell_108 : decode cX4_tell 108 = .ok (.iconst (-1), 1) := by decide +kernel
theorem dX4_tell_109 : decode cX4_tell 109 = .ok (.ireturn, 1) := by decide +kernel
theorem dX4_tell_110 : decode cX4_tell 110 = .ok (.aload_n 0, 1) := by decide +kernel
theorem dX4_tell_111 : decode cX4_tell 111 = .ok (.getfield 37, 3) := by decide +kernel
theorem dX4_tell_114 : decode cX4_tell 114 = .ok (.iconst 1, 1) := by decide +kernel
theorem dX4_tell_115 : decode cX4_tell 115 = .ok (.if_icmp .eq 11, 3) := by decide +kernel
theorem dX4_tell_118 : decode cX4_tell 118 = .ok (.aload_n 0, 1) := by decide +kernel
theorem dX4_tell_119 : decode cX4_tell 119 = .ok (.getfield 37, 3) := by decide +kernel
theorem dX4_tell_122 : decode cX4_tell 122 = .ok (.iconst 2, 1) := by decide +kernel
theorem dX4_tell_123 : decode cX4_tell 123 = .ok (.if_icmp .ne 10, 3) := by decide +kernel
theorem dX4_tell_126 : decode cX4_tell 126 = .ok (.aload_n 0, 1) := by decide +kernel
theorem dX4_tell_127 : decode cX4_tell 127 = .ok (.getfield 107, 3) := by decide +kernel
theorem dX4_tell_130 : decode cX4_tell 130 = .ok (.goto 4, 3) := by decide +kernel
theorem dX4_tell_133 : decode cX4_tell 133 = .ok (.iconst (-1), 1) := by decide +kernel
theorem dX4_tell_134 : decode cX4_tell 134 = .ok (.ireturn, 1) := by decide +kernel
theorem dX4_tell_135 : decode cX4_tell 135 = .ok (.aload_n 0, 1) := by decide +kernel
theorem dX4_tell_136 : decode cX4_tell 136 = .ok (.getfield 37, 3) := by decide +kernel
theorem dX4_tell_139 : decode cX4_tell 139 = .ok (.iconst 3, 1) := by decide +kernel
theorem dX4_tell_140 : decode cX4_tell 140 = .ok (.if_icmp .ne 10, 3) := by decide +kernel
theorem dX4_tell_143 : decode cX4_tell 143 = .ok (.aload_n 0, 1) := by decide +kernel
theorem dX4_tell_144 : decode cX4_tell 144 = .ok (.getfield 113, 3) := by decide +kernel
theorem dX4_tell_147 : decode cX4_tell 147 = .ok (.goto 4, 3) := by decide +kernel
theorem dX4_tell_150 : decode cX4_tell 150 = .ok (.iconst (-1), 1) := by decide +kernel
theorem dX4_tell_151 : decode cX4_tell 151 = .ok (.ireturn, 1) := by decide +kernel
theorem dX4_tell_152 : decode cX4_tell 152 = .ok (.aload_n 0, 1) := by decide +kernel
theorem dX4_tell_153 : decode cX4_tell 153 = .ok (.iload_n 2, 1) := by decide +kernel
theorem dX4_tell_154 : decode cX4_tell 154 = .ok (.invokevirtual 120, 3) := by decide +kernel
theorem dX4_tell_157 : decode cX4_tell 157 = .ok (.ifCond .eq 12, 3) := by decide +kernel
theorem dX4_tell_160 : decode cX4_tell 160 = .ok (.aload_n 0, 1) := by decide +kernel
theorem dX4_tell_161 : decode cX4_tell 161 = .ok (.getfield 27, 3) := by decide +kernel
theorem dX4_tell_164 : decode cX4_tell 164 = .ok (.iload_n 2, 1) := by decide +kernel
theorem dX4_tell_165 : decode cX4_tell 165 = .ok (.iaload, 1) := by decide +kernel
theorem dX4_tell_166 : decode cX4_tell 166 = .ok (.goto 4, 3) := by decide +kernel
theorem dX4_tell_169 : decode cX4_tell 169 = .ok (.iconst (-1), 1) := by decide +kernel
theorem dX4_tell_170 : decode cX4_tell 170 = .ok (.ireturn, 1) := by decide +kernel
theorem dX4_tell_171 : decode cX4_tell 171 = .ok (.aload_n 0, 1) := by decide +kernel
theorem dX4_tell_172 : decode cX4_tell 172 = .ok (.iload_n 2, 1) := by decide +kernel
theorem dX4_tell_173 : decode cX4_tell 173 = .ok (.invokevirtual 120, 3) := by decide +kernel
theorem dX4_tell_176 : decode cX4_tell 176 = .ok (.ifCond .eq 12, 3) := by decide +kernel
theorem dX4_tell_179 : decode cX4_tell 179 = .ok (.aload_n 0, 1) := by decide +kernel
theorem dX4_tell_180 : decode cX4_tell 180 = .ok (.getfield 30, 3) := by decide +kernel
theorem dX4_tell_183 : decode cX4_tell 183 = .ok (.iload_n 2, 1) := by decide +kernel
theorem dX4_tell_184 : decode cX4_tell 184 = .ok (.iaload, 1) := by decide +kernel
theorem dX4_tell_185 : decode cX4_tell 185 = .ok (.goto 4, 3) := by decide +kernel
theorem dX4_tell_188 : decode cX4_tell 188 = .ok (.iconst (-1), 1) := by decide +kernel
theorem dX4_tell_189 : decode cX4_tell 189 = .ok (.ireturn, 1) := by decide +kernel
theorem dX4_tell_190 : decode cX4_tell 190 = .ok (.iconst (-1), 1) := by decide +kernel
theorem dX4_tell_191 : decode cX4_tell 191 = .ok (.ireturn, 1) := by decide +kernel
theorem dX4_isRole_0 : decode cX4_isRole 0 = .ok (.aload_n 0, 1) := by decide +kernel
theorem dX4_isRole_1 : decode cX4_isRole 1 = .ok (.getfield 37, 3) := by decide +kernel
theorem dX4_isRole_4 : decode cX4_isRole 4 = .ok (.ifCond .ne 16, 3) := by decide +kernel
theorem dX4_isRole_7 : decode cX4_isRole 7 = .ok (.iload_n 1, 1) := by decide +kernel
theorem dX4_isRole_8 : decode cX4_isRole 8 = .ok (.ifCond .lt 12, 3) := by decide +kernel
theorem dX4_isRole_11 : decode cX4_isRole 11 = .ok (.iload_n 1, 1) := by decide +kernel
theorem dX4_isRole_12 : decode cX4_isRole 12 = .ok (.iconst 4, 1) := by decide +kernel
theorem dX4_isRole_13 : decode cX4_isRole 13 = .ok (.if_icmp .ge 7, 3) := by decide +kernel
theorem dX4_isRole_16 : decode cX4_isRole 16 = .ok (.iconst 1, 1) := by decide +kernel
theorem dX4_isRole_17 : decode cX4_isRole 17 = .ok (.goto 4, 3) := by decide +kernel
theorem dX4_isRole_20 : decode cX4_isRole 20 = .ok (.iconst 0, 1) := by decide +kernel
theorem dX4_isRole_21 : decode cX4_isRole 21 = .ok (.ireturn, 1) := by decide +kernel
theorem dX4_isImage_0 : decode cX4_isImage 0 = .ok (.aload_n 0, 1) := by decide +kernel
theorem dX4_isImage_1 : decode cX4_isImage 1 = .ok (.getfield 37, 3) := by decide +kernel
theorem dX4_isImage_4 : decode cX4_isImage 4 = .ok (.iconst 3, 1) := by decide +kernel
theorem dX4_isImage_5 : decode cX4_isImage 5 = .ok (.if_icmp .ne 24, 3) := by decide +kernel
theorem dX4_isImage_8 : decode cX4_isImage 8 = .ok (.iload_n 1, 1) := by decide +kernel
theorem dX4_isImage_9 : decode cX4_isImage 9 = .ok (.ifCond .lt 20, 3) := by decide +kernel
theorem dX4_isImage_12 : decode cX4_isImage 12 = .ok (.iload_n 1, 1) := by decide +kernel
theorem dX4_isImage_13 : decode cX4_isImage 13 = .ok (.aload_n 0, 1) := by decide +kernel
theorem dX4_isImage_14 : decode cX4_isImage 14 = .ok (.getfield 113, 3) := by decide +kernel
theorem dX4_isImage_17 : decode cX4_isImage 17 = .ok (.if_icmp .ge 12, 3) := by decide +kernel
theorem dX4_isImage_20 : decode cX4_isImage 20 = .ok (.iload_n 1, 1) := by decide +kernel
theorem dX4_isImage_21 : decode cX4_isImage 21 = .ok (.iconst 4, 1) := by decide +kernel
theorem dX4_isImage_22 : decode cX4_isImage 22 = .ok (.if_icmp .ge 7, 3) := by decide +kernel
theorem dX4_isImage_25 : decode cX4_isImage 25 = .ok (.iconst 1, 1) := by decide +kernel
theorem dX4_isImage_26 : decode cX4_isImage 26 = .ok (.goto 4, 3) := by decide +kernel
theorem dX4_isImage_29 : decode cX4_isImage 29 = .ok (.iconst 0, 1) := by decide +kernel
theorem dX4_isImage_30 : decode cX4_isImage 30 = .ok (.ireturn, 1) := by decide +kernel
theorem dX5_init_0 : decode cX5_init 0 = .ok (.aload_n 0, 1) := by decide +kernel
theorem dX5_init_1 : decode cX5_init 1 = .ok (.invokespecial 3, 3) := by decide +kernel
theorem dX5_init_4 : decode cX5_init 4 = .ok (.aload_n 0, 1) := by decide +kernel
theorem dX5_init_5 : decode cX5_init 5 = .ok (.iconst 0, 1) := by decide +kernel
theorem dX5_init_6 : decode cX5_init 6 = .ok (.putfield 9, 3) := by decide +kernel
theorem dX5_init_9 : decode cX5_init 9 = .ok (.aload_n 0, 1) := by decide +kernel
theorem dX5_init_10 : decode cX5_init 10 = .ok (.iload_n 1, 1) := by decide +kernel
theorem dX5_init_11 : decode cX5_init 11 = .ok (.iconst 0, 1) := by decide +kernel
theorem dX5_init_12 : decode cX5_init 12 = .ok (.invokestatic 15, 3) := by decide +kernel
theorem dX5_init_15 : decode cX5_init 15 = .ok (.newarray .int, 2) := by decide +kernel
theorem dX5_init_17 : decode cX5_init 17 = .ok (.putfield 21, 3) := by decide +kernel
theorem dX5_init_20 : decode cX5_init 20 = .ok (.return_, 1) := by decide +kernel
theorem dX5_size_0 : decode cX5_size 0 = .ok (.aload_n 0, 1) := by decide +kernel
theorem dX5_size_1 : decode cX5_size 1 = .ok (.getfield 9, 3) := by decide +kernel
theorem dX5_size_4 : decode cX5_size 4 = .ok (.ireturn, 1) := by decide +kernel
theorem dX5_has_0 : decode cX5_has 0 = .ok (.iload_n 1, 1) := by decide +kernel
theorem dX5_has_1 : decode cX5_has 1 = .ok (.ifCond .lt 15, 3) := by decide +kernel
theorem dX5_has_4 : decode cX5_has 4 = .ok (.iload_n 1, 1) := by decide +kernel
theorem dX5_has_5 : decode cX5_has 5 = .ok (.aload_n 0, 1) := by decide +kernel
theorem dX5_has_6 : decode cX5_has 6 = .ok (.getfield 9, 3) := by decide +kernel
theorem dX5_has_9 : decode cX5_has 9 = .ok (.if_icmp .ge 7, 3) := by decide +kernel
theorem dX5_has_12 : decode cX5_has 12 = .ok (.iconst 1, 1) := by decide +kernel
theorem dX5_has_13 : decode cX5_has 13 = .ok (.goto 4, 3) := by decide +kernel
theorem dX5_has_16 : decode cX5_has 16 = .ok (.iconst 0, 1) := by decide +kernel
theorem dX5_has_17 : decode cX5_has 17 = .ok (.ireturn, 1) := by decide +kernel
theorem dX5_at_0 : decode cX5_at 0 = .ok (.iload_n 1, 1) := by decide +kernel
theorem dX5_at_1 : decode cX5_at 1 = .ok (.ifCond .lt 20, 3) := by decide +kernel
theorem dX5_at_4 : decode cX5_at 4 = .ok (.iload_n 1, 1) := by decide +kernel
theorem dX5_at_5 : decode cX5_at 5 = .ok (.aload_n 0, 1) := by decide +kernel
theorem dX5_at_6 : decode cX5_at 6 = .ok (.getfield 9, 3) := by decide +kernel
theorem dX5_at_9 : decode cX5_at 9 = .ok (.if_icmp .ge 12, 3) := by decide +kernel
theorem dX5_at_12 : decode cX5_at 12 = .ok (.aload_n 0, 1) := by decide +kernel
theorem dX5_at_13 : decode cX5_at 13 = .ok (.getfield 21, 3) := by decide +kernel
theorem dX5_at_16 : decode cX5_at 16 = .ok (.iload_n 1, 1) := by decide +kernel
theorem dX5_at_17 : decode cX5_at 17 = .ok (.iaload, 1) := by decide +kernel
theorem dX5_at_18 : decode cX5_at 18 = .ok (.goto 6, 3) := by decide +kernel
theorem dX5_at_21 : decode cX5_at 21 = .ok (.sipush 255, 3) := by decide +kernel
theorem dX5_at_24 : decode cX5_at 24 = .ok (.ireturn, 1) := by decide +kernel
theorem dX5_set_0 : decode cX5_set 0 = .ok (.iload_n 1, 1) := by decide +kernel
theorem dX5_set_1 : decode cX5_set 1 = .ok (.ifCond .lt 22, 3) := by decide +kernel
theorem dX5_set_4 : decode cX5_set 4 = .ok (.iload_n 1, 1) := by decide +kernel
theorem dX5_set_5 : decode cX5_set 5 = .ok (.aload_n 0, 1) := by decide +kernel
theorem dX5_set_6 : decode cX5_set 6 = .ok (.getfield 9, 3) := by decide +kernel
theorem dX5_set_9 : decode cX5_set 9 = .ok (.if_icmp .ge 14, 3) := by decide +kernel
theorem dX5_set_12 : decode cX5_set 12 = .ok (.aload_n 0, 1) := by decide +kernel
theorem dX5_set_13 : decode cX5_set 13 = .ok (.getfield 21, 3) := by decide +kernel
theorem dX5_set_16 : decode cX5_set 16 = .ok (.iload_n 1, 1) := by decide +kernel
theorem dX5_set_17 : decode cX5_set 17 = .ok (.iload_n 2, 1) := by decide +kernel
theorem dX5_set_18 : decode cX5_set 18 = .ok (.sipush 255, 3) := by decide +kernel
theorem dX5_set_21 : decode cX5_set 21 = .ok (.iand, 1) := by decide +kernel
theorem dX5_set_22 : decode cX5_set 22 = .ok (.iastore, 1) := by decide +kernel
theorem dX5_set_23 : decode cX5_set 23 = .ok (.return_, 1) := by decide +kernel
theorem dX5_empty_0 : decode cX5_empty 0 = .ok (.aload_n 0, 1) := by decide +kernel
theorem dX5_empty_1 : decode cX5_empty 1 = .ok (.iconst 0, 1) := by decide +kernel
theorem dX5_empty_2 : decode cX5_empty 2 = .ok (.putfield 9, 3) := by decide +kernel
theorem dX5_empty_5 : decode cX5_empty 5 = .ok (.return_, 1) := by decide +kernel
theorem dX5_shorten_0 : decode cX5_shorten 0 = .ok (.aload_n 0, 1) := by decide +kernel
theorem dX5_shorten_1 : decode cX5_shorten 1 = .ok (.iconst 0, 1) := by decide +kernel
theorem dX5_shorten_2 : decode cX5_shorten 2 = .ok (.aload_n 0, 1) := by decide +kernel
theorem dX5_shorten_3 : decode cX5_shorten 3 = .ok (.getfield 9, 3) := by decide +kernel
theorem dX5_shorten_6 : decode cX5_shorten 6 = .ok (.iload_n 1, 1) := by decide +kernel
theorem dX5_shorten_7 : decode cX5_shorten 7 = .ok (.iconst 0, 1) := by decide +kernel
theorem dX5_shorten_8 : decode cX5_shorten 8 = .ok (.invokestatic 15, 3) := by decide +kernel
theorem dX5_shorten_11 : decode cX5_shorten 11 = .ok (.isub, 1) := by decide +kernel
theorem dX5_shorten_12 : decode cX5_shorten 12 = .ok (.invokestatic 15, 3) := by decide +kernel
theorem dX5_shorten_15 : decode cX5_shorten 15 = .ok (.putfield 9, 3) := by decide +kernel
theorem dX5_shorten_18 : decode cX5_shorten 18 = .ok (.return_, 1) := by decide +kernel
theorem dX5_add_0 : decode cX5_add 0 = .ok (.aload_n 0, 1) := by decide +kernel
theorem dX5_add_1 : decode cX5_add 1 = .ok (.getfield 9, 3) := by decide +kernel
theorem dX5_add_4 : decode cX5_add 4 = .ok (.aload_n 0, 1) := by decide +kernel
theorem dX5_add_5 : decode cX5_add 5 = .ok (.getfield 21, 3) := by decide +kernel
theorem dX5_add_8 : decode cX5_add 8 = .ok (.arraylength, 1) := by decide +kernel
theorem dX5_add_9 : decode cX5_add 9 = .ok (.if_icmp .ge 27, 3) := by decide +kernel
theorem dX5_add_12 : decode cX5_add 12 = .ok (.aload_n 0, 1) := by decide +kernel
theorem dX5_add_13 : decode cX5_add 13 = .ok (.getfield 21, 3) := by decide +kernel
theorem dX5_add_16 : decode cX5_add 16 = .ok (.aload_n 0, 1) := by decide +kernel
theorem dX5_add_17 : decode cX5_add 17 = .ok (.getfield 9, 3) := by decide +kernel
theorem dX5_add_20 : decode cX5_add 20 = .ok (.iload_n 1, 1) := by decide +kernel
theorem dX5_add_21 : decode cX5_add 21 = .ok (.sipush 255, 3) := by decide +kernel
theorem dX5_add_24 : decode cX5_add 24 = .ok (.iand, 1) := by decide +kernel
theorem dX5_add_25 : decode cX5_add 25 = .ok (.iastore, 1) := by decide +kernel
theorem dX5_add_26 : decode cX5_add 26 = .ok (.aload_n 0, 1) := by decide +kernel
theorem dX5_add_27 : decode cX5_add 27 = .ok (.dup, 1) := by decide +kernel
theorem dX5_add_28 : decode cX5_add 28 = .ok (.getfield 9, 3) := by decide +kernel
theorem dX5_add_31 : decode cX5_add 31 = .ok (.iconst 1, 1) := by decide +kernel
theorem dX5_add_32 : decode cX5_add 32 = .ok (.iadd, 1) := by decide +kernel
theorem dX5_add_33 : decode cX5_add 33 = .ok (.putfield 9, 3) := by decide +kernel
theorem dX5_add_36 : decode cX5_add 36 = .ok (.return_, 1) := by decide +kernel
theorem dX5_addNumber_0 : decode cX5_addNumber 0 = .ok (.iload_n 3, 1) := by decide +kernel
theorem dX5_addNumber_1 : decode cX5_addNumber 1 = .ok (.iconst 1, 1) := by decide +kernel
theorem dX5_addNumber_2 : decode cX5_addNumber 2 = .ok (.isub, 1) := by decide +kernel
theorem dX5_addNumber_3 : decode cX5_addNumber 3 = .ok (.istore 4, 2) := by decide +kernel
theorem dX5_addNumber_5 : decode cX5_addNumber 5 = .ok (.iload 4, 2) := by decide +kernel
theorem dX5_addNumber_7 : decode cX5_addNumber 7 = .ok (.ifCond .lt 21, 3) := by decide +kernel
theorem dX5_addNumber_10 : decode cX5_addNumber 10 = .ok (.aload_n 0, 1) := by decide +kernel
theorem dX5_addNumber_11 : decode cX5_addNumber 11 = .ok (.lload_n 1, 1) := by decide +kernel
theorem dX5_addNumber_12 : decode cX5_addNumber 12 = .ok (.bipush 8, 2) := by decide +kernel
theorem dX5_addNumber_14 : decode cX5_addNumber 14 = .ok (.iload 4, 2) := by decide +kernel
theorem dX5_addNumber_16 : decode cX5_addNumber 16 = .ok (.imul, 1) := by decide +kernel
theorem dX5_addNumber_17 : decode cX5_addNumber 17 = .ok (.lushr, 1) := by decide +kernel
theorem dX5_addNumber_18 : decode cX5_addNumber 18 = .ok (.l2i, 1) := by decide +kernel
theorem dX5_addNumber_19 : decode cX5_addNumber 19 = .ok (.invokevirtual 25, 3) := by decide +kernel
theorem dX5_addNumber_22 : decode cX5_addNumber 22 = .ok (.iinc 4 (-1), 3) := by decide +kernel
theorem dX5_addNumber_25 : decode cX5_addNumber 25 = .ok (.goto (-20), 3) := by decide +kernel
theorem dX5_addNumber_28 : decode cX5_addNumber 28 = .ok (.return_, 1) := by decide +kernel
theorem dX5_addFrom_0 : decode cX5_addFrom 0 = .ok (.iconst 0, 1) := by decide +kernel
theorem dX5_addFrom_1 : decode cX5_addFrom 1 = .ok (.istore 4, 2) := by decide +kernel
theorem dX5_addFrom_3 : decode cX5_addFrom 3 = .ok (.iload 4, 2) := by decide +kernel
theorem dX5_addFrom_5 : decode cX5_addFrom 5 = .ok (.iload_n 3, 1) := by decide +kernel
theorem dX5_addFrom_6 : decode cX5_addFrom 6 = .ok (.if_icmp .ge 21, 3) := by decide +kernel
theorem dX5_addFrom_9 : decode cX5_addFrom 9 = .ok (.aload_n 0, 1) := by decide +kernel
theorem dX5_addFrom_10 : decode cX5_addFrom 10 = .ok (.aload_n 1, 1) := by decide +kernel
theorem dX5_addFrom_11 : decode cX5_addFrom 11 = .ok (.iload_n 2, 1) := by decide +kernel
theorem dX5_addFrom_12 : decode cX5_addFrom 12 = .ok (.iload 4, 2) := by decide +kernel
theorem dX5_addFrom_14 : decode cX5_addFrom 14 = .ok (.iadd, 1) := by decide +kernel
theorem dX5_addFrom_15 : decode cX5_addFrom 15 = .ok (.invokevirtual 29, 3) := by decide +kernel
theorem dX5_addFrom_18 : decode cX5_addFrom 18 = .ok (.invokevirtual 25, 3) := by decide +kernel
theorem dX5_addFrom_21 : decode cX5_addFrom 21 = .ok (.iinc 4 1, 3) := by decide +kernel
theorem dX5_addFrom_24 : decode cX5_addFrom 24 = .ok (.goto (-21), 3) := by decide +kernel
theorem dX5_addFrom_27 : decode cX5_addFrom 27 = .ok (.return_, 1) := by decide +kernel
theorem dX5_number_0 : decode cX5_number 0 = .ok (.iload_n 1, 1) := by decide +kernel
theorem dX5_number_1 : decode cX5_number 1 = .ok (.ifCond .lt 17, 3) := by decide +kernel
theorem dX5_number_4 : decode cX5_number 4 = .ok (.iload_n 2, 1) := by decide +kernel
theorem dX5_number_5 : decode cX5_number 5 = .ok (.ifCond .lt 13, 3) := by decide +kernel
theorem dX5_number_8 : decode cX5_number 8 = .ok (.iload_n 1, 1) := by decide +kernel
theorem dX5_number_9 : decode cX5_number 9 = .ok (.aload_n 0, 1) := by decide +kernel
theorem dX5_number_10 : decode cX5_number 10 = .ok (.getfield 9, 3) := by decide +kernel
theorem dX5_number_13 : decode cX5_number 13 = .ok (.iload_n 2, 1) := by decide +kernel
theorem dX5_number_14 : decode cX5_number 14 = .ok (.isub, 1) := by decide +kernel
theorem dX5_number_15 : decode cX5_number 15 = .ok (.if_icmp .le 7, 3) := by decide +kernel
theorem dX5_number_18 : decode cX5_number 18 = .ok (.ldc2_w 33, 3) := by decide +kernel
theorem dX5_number_21 : decode cX5_number 21 = .ok (.lreturn, 1) := by decide +kernel
theorem dX5_number_22 : decode cX5_number 22 = .ok (.lconst 0, 1) := by decide +kernel
theorem dX5_number_23 : decode cX5_number 23 = .ok (.lstore_n 3, 1) := by decide +kernel
theorem dX5_number_24 : decode cX5_number 24 = .ok (.iload_n 1, 1) := by decide +kernel
theorem dX5_number_25 : decode cX5_number 25 = .ok (.istore 5, 2) := by decide +kernel
theorem dX5_number_27 : decode cX5_number 27 = .ok (.iload 5, 2) := by decide +kernel
theorem dX5_number_29 : decode cX5_number 29 = .ok (.iload_n 1, 1) := by decide +kernel
theorem dX5_number_30 : decode cX5_number 30 = .ok (.iload_n 2, 1) := by decide +kernel
theorem dX5_number_31 : decode cX5_number 31 = .ok (.iadd, 1) := by decide +kernel
theorem dX5_number_32 : decode cX5_number 32 = .ok (.if_icmp .ge 23, 3) := by decide +kernel
theorem dX5_number_35 : decode cX5_number 35 = .ok (.lload_n 3, 1) := by decide +kernel
theorem dX5_number_36 : decode cX5_number 36 = .ok (.bipush 8, 2) := by decide +kernel
theorem dX5_number_38 : decode cX5_number 38 = .ok (.lshl, 1) := by decide +kernel
theorem dX5_number_39 : decode cX5_number 39 = .ok (.aload_n 0, 1) := by decide +kernel
theorem dX5_number_40 : decode cX5_number 40 = .ok (.getfield 21, 3) := by decide +kernel
theorem dX5_number_43 : decode cX5_number 43 = .ok (.iload 5, 2) := by decide +kernel
theorem dX5_number_45 : decode cX5_number 45 = .ok (.iaload, 1) := by decide +kernel
theorem dX5_number_46 : decode cX5_number 46 = .ok (.i2l, 1) := by decide +kernel
theorem dX5_number_47 : decode cX5_number 47 = .ok (.lor, 1) := by decide +kernel
theorem dX5_number_48 : decode cX5_number 48 = .ok (.lstore_n 3, 1) := by decide +kernel
theorem dX5_number_49 : decode cX5_number 49 = .ok (.iinc 5 1, 3) := by decide +kernel
theorem dX5_number_52 : decode cX5_number 52 = .ok (.goto (-25), 3) := by decide +kernel
theorem dX5_number_55 : decode cX5_number 55 = .ok (.lload_n 3, 1) := by decide +kernel
theorem dX5_number_56 : decode cX5_number 56 = .ok (.lreturn, 1) := by decide +kernel
theorem dX5_keyBits_0 : decode cX5_keyBits 0 = .ok (.iload_n 1, 1) := by decide +kernel
theorem dX5_keyBits_1 : decode cX5_keyBits 1 = .ok (.ifCond .lt 17, 3) := by decide +kernel
theorem dX5_keyBits_4 : decode cX5_keyBits 4 = .ok (.iload_n 2, 1) := by decide +kernel
theorem dX5_keyBits_5 : decode cX5_keyBits 5 = .ok (.ifCond .lt 13, 3) := by decide +kernel
theorem dX5_keyBits_8 : decode cX5_keyBits 8 = .ok (.iload_n 1, 1) := by decide +kernel
theorem dX5_keyBits_9 : decode cX5_keyBits 9 = .ok (.aload_n 0, 1) := by decide +kernel
theorem dX5_keyBits_10 : decode cX5_keyBits 10 = .ok (.getfield 9, 3) := by decide +kernel
theorem dX5_keyBits_13 : decode cX5_keyBits 13 = .ok (.iload_n 2, 1) := by decide +kernel
theorem dX5_keyBits_14 : decode cX5_keyBits 14 = .ok (.isub, 1) := by decide +kernel
theorem dX5_keyBits_15 : decode cX5_keyBits 15 = .ok (.if_icmp .le 5, 3) := by decide +kernel
theorem dX5_keyBits_18 : decode cX5_keyBits 18 = .ok (.iconst (-1), 1) := by decide +kernel
theorem dX5_keyBits_19 : decode cX5_keyBits 19 = .ok (.ireturn, 1) := by decide +kernel
theorem dX5_keyBits_20 : decode cX5_keyBits 20 = .ok (.iconst 0, 1) := by decide +kernel
theorem dX5_keyBits_21 : decode cX5_keyBits 21 = .ok (.istore_n 3, 1) := by decide +kernel
theorem dX5_keyBits_22 : decode cX5_keyBits 22 = .ok (.iconst (-1), 1) := by decide +kernel
theorem dX5_keyBits_23 : decode cX5_keyBits 23 = .ok (.istore 4, 2) := by decide +kernel
theorem dX5_keyBits_25 : decode cX5_keyBits 25 = .ok (.iload_n 1, 1) := by decide +kernel
theorem dX5_keyBits_26 : decode cX5_keyBits 26 = .ok (.istore 5, 2) := by decide +kernel
theorem dX5_keyBits_28 : decode cX5_keyBits 28 = .ok (.iload 5, 2) := by decide +kernel
theorem dX5_keyBits_30 : decode cX5_keyBits 30 = .ok (.iload_n 1, 1) := by decide +kernel
theorem dX5_keyBits_31 : decode cX5_keyBits 31 = .ok (.iload_n 2, 1) := by decide +kernel
theorem dX5_keyBits_32 : decode cX5_keyBits 32 = .ok (.iadd, 1) := by decide +kernel
theorem dX5_keyBits_33 : decode cX5_keyBits 33 = .ok (.if_icmp .ge 45, 3) := by decide +kernel
theorem dX5_keyBits_36 : decode cX5_keyBits 36 = .ok (.aload_n 0, 1) := by decide +kernel
theorem dX5_keyBits_37 : decode cX5_keyBits 37 = .ok (.getfield 21, 3) := by decide +kernel
theorem dX5_keyBits_40 : decode cX5_keyBits 40 = .ok (.iload 5, 2) := by decide +kernel
theorem dX5_keyBits_42 : decode cX5_keyBits 42 = .ok (.iaload, 1) := by decide +kernel
theorem dX5_keyBits_43 : decode cX5_keyBits 43 = .ok (.istore 6, 2) := by decide +kernel
theorem dX5_keyBits_45 : decode cX5_keyBits 45 = .ok (.iload 6, 2) := by decide +kernel
theorem dX5_keyBits_47 : decode cX5_keyBits 47 = .ok (.iload 4, 2) := by decide +kernel
theorem dX5_keyBits_49 : decode cX5_keyBits 49 = .ok (.if_icmp .le 10, 3) := by decide +kernel
theorem dX5_keyBits_52 : decode cX5_keyBits 52 = .ok (.iload 6, 2) := by decide +kernel
theorem dX5_keyBits_54 : decode cX5_keyBits 54 = .ok (.bipush 16, 2) := by decide +kernel
theorem dX5_keyBits_56 : decode cX5_keyBits 56 = .ok (.if_icmp .lt 5, 3) := by decide +kernel
theorem dX5_keyBits_59 : decode cX5_keyBits 59 = .ok (.iconst (-1), 1) := by decide +kernel
theorem dX5_keyBits_60 : decode cX5_keyBits 60 = .ok (.ireturn, 1) := by decide +kernel
theorem dX5_keyBits_61 : decode cX5_keyBits 61 = .ok (.iload_n 3, 1) := by decide +kernel
theorem dX5_keyBits_62 : decode cX5_keyBits 62 = .ok (.iconst 1, 1) := by decide +kernel
theorem dX5_keyBits_63 : decode cX5_keyBits 63 = .ok (.iload 6, 2) := by decide +kernel
theorem dX5_keyBits_65 : decode cX5_keyBits 65 = .ok (.ishl, 1) := by decide +kernel
theorem dX5_keyBits_66 : decode cX5_keyBits 66 = .ok (.ior, 1) := by decide +kernel
theorem dX5_keyBits_67 : decode cX5_keyBits 67 = .ok (.istore_n 3, 1) := by decide +kernel
theorem dX5_keyBits_68 : decode cX5_keyBits 68 = .ok (.iload 6, 2) := by decide +kernel
theorem dX5_keyBits_70 : decode cX5_keyBits 70 = .ok (.istore 4, 2) := by decide +kernel
theorem dX5_keyBits_72 : decode cX5_keyBits 72 = .ok (.iinc 5 1, 3) := by decide +kernel
theorem dX5_keyBits_75 : decode cX5_keyBits 75 = .ok (.goto (-47), 3) := by decide +kernel
theorem dX5_keyBits_78 : decode cX5_keyBits 78 = .ok (.iload_n 3, 1) := by decide +kernel
theorem dX5_keyBits_79 : decode cX5_keyBits 79 = .ok (.ireturn, 1) := by decide +kernel
theorem dX5_addKeys_0 : decode cX5_addKeys 0 = .ok (.aload_n 0, 1) := by decide +kernel
theorem dX5_addKeys_1 : decode cX5_addKeys 1 = .ok (.iload_n 1, 1) := by decide +kernel
theorem dX5_addKeys_2 : decode cX5_addKeys 2 = .ok (.invokestatic 35, 3) := by decide +kernel
theorem dX5_addKeys_5 : decode cX5_addKeys 5 = .ok (.invokevirtual 25, 3) := by decide +kernel
theorem dX5_addKeys_8 : decode cX5_addKeys 8 = .ok (.iconst 0, 1) := by decide +kernel
theorem dX5_addKeys_9 : decode cX5_addKeys 9 = .ok (.istore_n 2, 1) := by decide +kernel
theorem dX5_addKeys_10 : decode cX5_addKeys 10 = .ok (.iload_n 2, 1) := by decide +kernel
theorem dX5_addKeys_11 : decode cX5_addKeys 11 = .ok (.bipush 16, 2) := by decide +kernel
theorem dX5_addKeys_13 : decode cX5_addKeys 13 = .ok (.if_icmp .ge 22, 3) := by decide +kernel
theorem dX5_addKeys_16 : decode cX5_addKeys 16 = .ok (.iload_n 1, 1) := by decide +kernel
theorem dX5_addKeys_17 : decode cX5_addKeys 17 = .ok (.iload_n 2, 1) := by decide +kernel
theorem dX5_addKeys_18 : decode cX5_addKeys 18 = .ok (.ishr, 1) := by decide +kernel
theorem dX5_addKeys_19 : decode cX5_addKeys 19 = .ok (.iconst 1, 1) := by decide +kernel
theorem dX5_addKeys_20 : decode cX5_addKeys 20 = .ok (.iand, 1) := by decide +kernel
theorem dX5_addKeys_21 : decode cX5_addKeys 21 = .ok (.ifCond .eq 8, 3) := by decide +kernel
theorem dX5_addKeys_24 : decode cX5_addKeys 24 = .ok (.aload_n 0, 1) := by decide +kernel
theorem dX5_addKeys_25 : decode cX5_addKeys 25 = .ok (.iload_n 2, 1) := by decide +kernel
theorem dX5_addKeys_26 : decode cX5_addKeys 26 = .ok (.invokevirtual 25, 3) := by decide +kernel
theorem dX5_addKeys_29 : decode cX5_addKeys 29 = .ok (.iinc 2 1, 3) := by decide +kernel
theorem dX5_addKeys_32 : decode cX5_addKeys 32 = .ok (.goto (-22), 3) := by decide +kernel
theorem dX5_addKeys_35 : decode cX5_addKeys 35 = .ok (.return_, 1) := by decide +kernel
theorem dX5_hash_0 : decode cX5_hash 0 = .ok (.ldc2_w 40, 3) := by decide +kernel
theorem dX5_hash_3 : decode cX5_hash 3 = .ok (.lstore_n 3, 1) := by decide +kernel
theorem dX5_hash_4 : decode cX5_hash 4 = .ok (.iload_n 1, 1) := by decide +kernel
theorem dX5_hash_5 : decode cX5_hash 5 = .ok (.ifCond .lt 17, 3) := by decide +kernel
theorem dX5_hash_8 : decode cX5_hash 8 = .ok (.iload_n 2, 1) := by decide +kernel
theorem dX5_hash_9 : decode cX5_hash 9 = .ok (.ifCond .lt 13, 3) := by decide +kernel
theorem dX5_hash_12 : decode cX5_hash 12 = .ok (.iload_n 1, 1) := by decide +kernel
theorem dX5_hash_13 : decode cX5_hash 13 = .ok (.aload_n 0, 1) := by decide +kernel
theorem dX5_hash_14 : decode cX5_hash 14 = .ok (.getfield 9, 3) := by decide +kernel
theorem dX5_hash_17 : decode cX5_hash 17 = .ok (.iload_n 2, 1) := by decide +kernel
theorem dX5_hash_18 : decode cX5_hash 18 = .ok (.isub, 1) := by decide +kernel
theorem dX5_hash_19 : decode cX5_hash 19 = .ok (.if_icmp .le 5, 3) := by decide +kernel
theorem dX5_hash_22 : decode cX5_hash 22 = .ok (.lload_n 3, 1) := by decide +kernel
theorem dX5_hash_23 : decode cX5_hash 23 = .ok (.lreturn, 1) := by decide +kernel
theorem dX5_hash_24 : decode cX5_hash 24 = .ok (.iload_n 1, 1) := by decide +kernel
theorem dX5_hash_25 : decode cX5_hash 25 = .ok (.istore 5, 2) := by decide +kernel
theorem dX5_hash_27 : decode cX5_hash 27 = .ok (.iload 5, 2) := by decide +kernel
theorem dX5_hash_29 : decode cX5_hash 29 = .ok (.iload_n 1, 1) := by decide +kernel
theorem dX5_hash_30 : decode cX5_hash 30 = .ok (.iload_n 2, 1) := by decide +kernel
theorem dX5_hash_31 : decode cX5_hash 31 = .ok (.iadd, 1) := by decide +kernel
theorem dX5_hash_32 : decode cX5_hash 32 = .ok (.if_icmp .ge 31, 3) := by decide +kernel
theorem dX5_hash_35 : decode cX5_hash 35 = .ok (.lload_n 3, 1) := by decide +kernel
theorem dX5_hash_36 : decode cX5_hash 36 = .ok (.aload_n 0, 1) := by decide +kernel
theorem dX5_hash_37 : decode cX5_hash 37 = .ok (.getfield 21, 3) := by decide +kernel
theorem dX5_hash_40 : decode cX5_hash 40 = .ok (.iload 5, 2) := by decide +kernel
theorem dX5_hash_42 : decode cX5_hash 42 = .ok (.iaload, 1) := by decide +kernel
theorem dX5_hash_43 : decode cX5_hash 43 = .ok (.i2l, 1) := by decide +kernel
theorem dX5_hash_44 : decode cX5_hash 44 = .ok (.lxor, 1) := by decide +kernel
theorem dX5_hash_45 : decode cX5_hash 45 = .ok (.ldc2_w 42, 3) := by decide +kernel
theorem dX5_hash_48 : decode cX5_hash 48 = .ok (.lmul, 1) := by decide +kernel
theorem dX5_hash_49 : decode cX5_hash 49 = .ok (.lstore_n 3, 1) := by decide +kernel
theorem dX5_hash_50 : decode cX5_hash 50 = .ok (.lload_n 3, 1) := by decide +kernel
theorem dX5_hash_51 : decode cX5_hash 51 = .ok (.lload_n 3, 1) := by decide +kernel
theorem dX5_hash_52 : decode cX5_hash 52 = .ok (.bipush 29, 2) := by decide +kernel
theorem dX5_hash_54 : decode cX5_hash 54 = .ok (.lushr, 1) := by decide +kernel
theorem dX5_hash_55 : decode cX5_hash 55 = .ok (.lxor, 1) := by decide +kernel
theorem dX5_hash_56 : decode cX5_hash 56 = .ok (.lstore_n 3, 1) := by decide +kernel
theorem dX5_hash_57 : decode cX5_hash 57 = .ok (.iinc 5 1, 3) := by decide +kernel
theorem dX5_hash_60 : decode cX5_hash 60 = .ok (.goto (-33), 3) := by decide +kernel
theorem dX5_hash_63 : decode cX5_hash 63 = .ok (.lload_n 3, 1) := by decide +kernel
theorem dX5_hash_64 : decode cX5_hash 64 = .ok (.lreturn, 1) := by decide +kernel
theorem dX5_checkOf_0 : decode cX5_checkOf 0 = .ok (.lload_n 0, 1) := by decide +kernel
theorem dX5_checkOf_1 : decode cX5_checkOf 1 = .ok (.bipush 32, 2) := by decide +kernel
theorem dX5_checkOf_3 : decode cX5_checkOf 3 = .ok (.lushr, 1) := by decide +kernel
theorem dX5_checkOf_4 : decode cX5_checkOf 4 = .ok (.lstore_n 2, 1) := by decide +kernel
theorem dX5_checkOf_5 : decode cX5_checkOf 5 = .ok (.lload_n 2, 1) := by decide +kernel
theorem dX5_checkOf_6 : decode cX5_checkOf 6 = .ok (.ldc2_w 44, 3) := by decide +kernel
theorem dX5_checkOf_9 : decode cX5_checkOf 9 = .ok (.lcmp, 1) := by decide +kernel
theorem dX5_checkOf_10 : decode cX5_checkOf 10 = .ok (.ifCond .ne 9, 3) := by decide +kernel
theorem dX5_checkOf_13 : decode cX5_checkOf 13 = .ok (.lload_n 2, 1) := by decide +kernel
theorem dX5_checkOf_14 : decode cX5_checkOf 14 = .ok (.lconst 1, 1) := by decide +kernel
theorem dX5_checkOf_15 : decode cX5_checkOf 15 = .ok (.lsub, 1) := by decide +kernel
theorem dX5_checkOf_16 : decode cX5_checkOf 16 = .ok (.goto 4, 3) := by decide +kernel
theorem dX5_checkOf_19 : decode cX5_checkOf 19 = .ok (.lload_n 2, 1) := by decide +kernel
theorem dX5_checkOf_20 : decode cX5_checkOf 20 = .ok (.lreturn, 1) := by decide +kernel
theorem dX6_init_0 : decode cX6_init 0 = .ok (.aload_n 0, 1) := by decide +kernel
theorem dX6_init_1 : decode cX6_init 1 = .ok (.invokespecial 3, 3) := by decide +kernel
theorem dX6_init_4 : decode cX6_init 4 = .ok (.aload_n 0, 1) := by decide +kernel
theorem dX6_init_5 : decode cX6_init 5 = .ok (.new 9, 3) := by decide +kernel
theorem dX6_init_8 : decode cX6_init 8 = .ok (.dup, 1) := by decide +kernel
theorem dX6_init_9 : decode cX6_init 9 = .ok (.invokespecial 11, 3) := by decide +kernel
theorem dX6_init_12 : decode cX6_init 12 = .ok (.putfield 12, 3) := by decide +kernel
theorem dX6_init_15 : decode cX6_init 15 = .ok (.aload_n 0, 1) := by decide +kernel
theorem dX6_init_16 : decode cX6_init 16 = .ok (.new 18, 3) := by decide +kernel
theorem dX6_init_19 : decode cX6_init 19 = .ok (.dup, 1) := by decide +kernel
theorem dX6_init_20 : decode cX6_init 20 = .ok (.sipush 128, 3) := by decide +kernel
theorem dX6_init_23 : decode cX6_init 23 = .ok (.invokespecial 20, 3) := by decide +kernel
theorem dX6_init_26 : decode cX6_init 26 = .ok (.putfield 23, 3) := by decide +kernel
theorem dX6_init_29 : decode cX6_init 29 = .ok (.aload_n 0, 1) := by decide +kernel
theorem dX6_init_30 : decode cX6_init 30 = .ok (.aload_n 1, 1) := by decide +kernel
theorem dX6_init_31 : decode cX6_init 31 = .ok (.putfield 27, 3) := by decide +kernel
theorem dX6_init_34 : decode cX6_init 34 = .ok (.aload_n 0, 1) := by decide +kernel
theorem dX6_init_35 : decode cX6_init 35 = .ok (.new 31, 3) := by decide +kernel
theorem dX6_init_38 : decode cX6_init 38 = .ok (.dup, 1) := by decide +kernel
theorem dX6_init_39 : decode cX6_init 39 = .ok (.aload_n 1, 1) := by decide +kernel
theorem dX6_init_40 : decode cX6_init 40 = .ok (.iload_n 2, 1) := by decide +kernel
theorem dX6_init_41 : decode cX6_init 41 = .ok (.iconst 2, 1) := by decide +kernel
theorem dX6_init_42 : decode cX6_init 42 = .ok (.iload_n 2, 1) := by decide +kernel
theorem dX6_init_43 : decode cX6_init 43 = .ok (.imul, 1) := by decide +kernel
theorem dX6_init_44 : decode cX6_init 44 = .ok (.invokespecial 33, 3) := by decide +kernel
theorem dX6_init_47 : decode cX6_init 47 = .ok (.putfield 36, 3) := by decide +kernel
theorem dX6_init_50 : decode cX6_init 50 = .ok (.aload_n 0, 1) := by decide +kernel
theorem dX6_init_51 : decode cX6_init 51 = .ok (.new 31, 3) := by decide +kernel
theorem dX6_init_54 : decode cX6_init 54 = .ok (.dup, 1) := by decide +kernel
theorem dX6_init_55 : decode cX6_init 55 = .ok (.aload_n 1, 1) := by decide +kernel
theorem dX6_init_56 : decode cX6_init 56 = .ok (.iload_n 2, 1) := by decide +kernel
theorem dX6_init_57 : decode cX6_init 57 = .ok (.iconst 2, 1) := by decide +kernel
theorem dX6_init_58 : decode cX6_init 58 = .ok (.iload_n 2, 1) := by decide +kernel
theorem dX6_init_59 : decode cX6_init 59 = .ok (.imul, 1) := by decide +kernel
theorem dX6_init_60 : decode cX6_init 60 = .ok (.iconst 1, 1) := by decide +kernel
theorem dX6_init_61 : decode cX6_init 61 = .ok (.iadd, 1) := by decide +kernel
theorem dX6_init_62 : decode cX6_init 62 = .ok (.invokespecial 33, 3) := by decide +kernel
theorem dX6_init_65 : decode cX6_init 65 = .ok (.putfield 40, 3) := by decide +kernel
theorem dX6_init_68 : decode cX6_init 68 = .ok (.aload_n 0, 1) := by decide +kernel
theorem dX6_init_69 : decode cX6_init 69 = .ok (.iload_n 2, 1) := by decide +kernel
theorem dX6_init_70 : decode cX6_init 70 = .ok (.ifCond .ne 7, 3) := by decide +kernel
theorem dX6_init_73 : decode cX6_init 73 = .ok (.iconst 1, 1) := by decide +kernel
theorem dX6_init_74 : decode cX6_init 74 = .ok (.goto 4, 3) := by decide +kernel
theorem dX6_init_77 : decode cX6_init 77 = .ok (.iconst 0, 1) := by decide +kernel
theorem dX6_init_78 : decode cX6_init 78 = .ok (.putfield 43, 3) := by decide +kernel
theorem dX6_init_81 : decode cX6_init 81 = .ok (.aload_n 0, 1) := by decide +kernel
theorem dX6_init_82 : decode cX6_init 82 = .ok (.getfield 12, 3) := by decide +kernel
theorem dX6_init_85 : decode cX6_init 85 = .ok (.invokevirtual 47, 3) := by decide +kernel
theorem dX6_init_88 : decode cX6_init 88 = .ok (.return_, 1) := by decide +kernel
theorem dX6_secondCounts_0 : decode cX6_secondCounts 0 = .ok (.aload_n 0, 1) := by decide +kernel
theorem dX6_secondCounts_1 : decode cX6_secondCounts 1 = .ok (.getfield 40, 3) := by decide +kernel
theorem dX6_secondCounts_4 : decode cX6_secondCounts 4 = .ok (.getfield 50, 3) := by decide +kernel
theorem dX6_secondCounts_7 : decode cX6_secondCounts 7 = .ok (.aload_n 0, 1) := by decide +kernel
theorem dX6_secondCounts_8 : decode cX6_secondCounts 8 = .ok (.getfield 36, 3) := by decide +kernel
theorem dX6_secondCounts_11 : decode cX6_secondCounts 11 = .ok (.getfield 50, 3) := by decide +kernel
theorem dX6_secondCounts_14 : decode cX6_secondCounts 14 = .ok (.if_icmp .le 7, 3) := by decide +kernel
theorem dX6_secondCounts_17 : decode cX6_secondCounts 17 = .ok (.iconst 1, 1) := by decide +kernel
theorem dX6_secondCounts_18 : decode cX6_secondCounts 18 = .ok (.goto 4, 3) := by decide +kernel
theorem dX6_secondCounts_21 : decode cX6_secondCounts 21 = .ok (.iconst 0, 1) := by decide +kernel
theorem dX6_secondCounts_22 : decode cX6_secondCounts 22 = .ok (.ireturn, 1) := by decide +kernel
theorem dX6_counting_0 : decode cX6_counting 0 = .ok (.aload_n 0, 1) := by decide +kernel
theorem dX6_counting_1 : decode cX6_counting 1 = .ok (.invokevirtual 54, 3) := by decide +kernel
theorem dX6_counting_4 : decode cX6_counting 4 = .ok (.ifCond .eq 10, 3) := by decide +kernel
theorem dX6_counting_7 : decode cX6_counting 7 = .ok (.aload_n 0, 1) := by decide +kernel
theorem dX6_counting_8 : decode cX6_counting 8 = .ok (.getfield 40, 3) := by decide +kernel
theorem dX6_counting_11 : decode cX6_counting 11 = .ok (.goto 7, 3) := by decide +kernel
theorem dX6_counting_14 : decode cX6_counting 14 = .ok (.aload_n 0, 1) := by decide +kernel
theorem dX6_counting_15 : decode cX6_counting 15 = .ok (.getfield 36, 3) := by decide +kernel
theorem dX6_counting_18 : decode cX6_counting 18 = .ok (.areturn, 1) := by decide +kernel
theorem dX6_number_0 : decode cX6_number 0 = .ok (.aload_n 0, 1) := by decide +kernel
theorem dX6_number_1 : decode cX6_number 1 = .ok (.getfield 36, 3) := by decide +kernel
theorem dX6_number_4 : decode cX6_number 4 = .ok (.getfield 50, 3) := by decide +kernel
theorem dX6_number_7 : decode cX6_number 7 = .ok (.aload_n 0, 1) := by decide +kernel
theorem dX6_number_8 : decode cX6_number 8 = .ok (.getfield 40, 3) := by decide +kernel
theorem dX6_number_11 : decode cX6_number 11 = .ok (.getfield 50, 3) := by decide +kernel
theorem dX6_number_14 : decode cX6_number 14 = .ok (.invokestatic 58, 3) := by decide +kernel
theorem dX6_number_17 : decode cX6_number 17 = .ok (.ireturn, 1) := by decide +kernel
theorem dX6_holds_0 : decode cX6_holds 0 = .ok (.aload_n 0, 1) := by decide +kernel
theorem dX6_holds_1 : decode cX6_holds 1 = .ok (.getfield 43, 3) := by decide +kernel
theorem dX6_holds_4 : decode cX6_holds 4 = .ok (.ifCond .ne 20, 3) := by decide +kernel
theorem dX6_holds_7 : decode cX6_holds 7 = .ok (.aload_n 0, 1) := by decide +kernel
theorem dX6_holds_8 : decode cX6_holds 8 = .ok (.invokevirtual 64, 3) := by decide +kernel
theorem dX6_holds_11 : decode cX6_holds 11 = .ok (.ifCond .le 17, 3) := by decide +kernel
theorem dX6_holds_14 : decode cX6_holds 14 = .ok (.aload_n 0, 1) := by decide +kernel
theorem dX6_holds_15 : decode cX6_holds 15 = .ok (.invokevirtual 67, 3) := by decide +kernel
theorem dX6_holds_18 : decode cX6_holds 18 = .ok (.getfield 71, 3) := by decide +kernel
theorem dX6_holds_21 : decode cX6_holds 21 = .ok (.ifCond .eq 7, 3) := by decide +kernel
theorem dX6_holds_24 : decode cX6_holds 24 = .ok (.iconst 1, 1) := by decide +kernel
theorem dX6_holds_25 : decode cX6_holds 25 = .ok (.goto 4, 3) := by decide +kernel
theorem dX6_holds_28 : decode cX6_holds 28 = .ok (.iconst 0, 1) := by decide +kernel
theorem dX6_holds_29 : decode cX6_holds 29 = .ok (.ireturn, 1) := by decide +kernel
theorem dX6_paper_0 : decode cX6_paper 0 = .ok (.aload_n 0, 1) := by decide +kernel
theorem dX6_paper_1 : decode cX6_paper 1 = .ok (.invokevirtual 64, 3) := by decide +kernel
theorem dX6_paper_4 : decode cX6_paper 4 = .ok (.ifCond .ne 17, 3) := by decide +kernel
theorem dX6_paper_7 : decode cX6_paper 7 = .ok (.aload_n 0, 1) := by decide +kernel
theorem dX6_paper_8 : decode cX6_paper 8 = .ok (.getfield 43, 3) := by decide +kernel
theorem dX6_paper_11 : decode cX6_paper 11 = .ok (.ifCond .eq 10, 3) := by decide +kernel
theorem dX6_paper_14 : decode cX6_paper 14 = .ok (.aload_n 0, 1) := by decide +kernel
theorem dX6_paper_15 : decode cX6_paper 15 = .ok (.getfield 12, 3) := by decide +kernel
theorem dX6_paper_18 : decode cX6_paper 18 = .ok (.goto 10, 3) := by decide +kernel
theorem dX6_paper_21 : decode cX6_paper 21 = .ok (.aload_n 0, 1) := by decide +kernel
theorem dX6_paper_22 : decode cX6_paper 22 = .ok (.invokevirtual 67, 3) := by decide +kernel
theorem dX6_paper_25 : decode cX6_paper 25 = .ok (.getfield 74, 3) := by decide +kernel
theorem dX6_paper_28 : decode cX6_paper 28 = .ok (.areturn, 1) := by decide +kernel
theorem dX6_holdsBodyOf_0 : decode cX6_holdsBodyOf 0 = .ok (.aload_n 0, 1) := by decide +kernel
theorem dX6_holdsBodyOf_1 : decode cX6_holdsBodyOf 1 = .ok (.invokevirtual 77, 3) := by decide +kernel
theorem dX6_holdsBodyOf_4 : decode cX6_holdsBodyOf 4 = .ok (.ifCond .eq 18, 3) := by decide +kernel
theorem dX6_holdsBodyOf_7 : decode cX6_holdsBodyOf 7 = .ok (.aload_n 0, 1) := by decide +kernel
theorem dX6_holdsBodyOf_8 : decode cX6_holdsBodyOf 8 = .ok (.invokevirtual 79, 3) := by decide +kernel
theorem dX6_holdsBodyOf_11 : decode cX6_holdsBodyOf 11 = .ok (.aload_n 1, 1) := by decide +kernel
theorem dX6_holdsBodyOf_12 : decode cX6_holdsBodyOf 12 = .ok (.invokevirtual 82, 3) := by decide +kernel
theorem dX6_holdsBodyOf_15 : decode cX6_holdsBodyOf 15 = .ok (.ifCond .eq 7, 3) := by decide +kernel
theorem dX6_holdsBodyOf_18 : decode cX6_holdsBodyOf 18 = .ok (.iconst 1, 1) := by decide +kernel
theorem dX6_holdsBodyOf_19 : decode cX6_holdsBodyOf 19 = .ok (.goto 4, 3) := by decide +kernel
theorem dX6_holdsBodyOf_22 : decode cX6_holdsBodyOf 22 = .ok (.iconst 0, 1) := by decide +kernel
theorem dX6_holdsBodyOf_23 : decode cX6_holdsBodyOf 23 = .ok (.ireturn, 1) := by decide +kernel
theorem dX6_keep_0 : decode cX6_keep 0 = .ok (.aload_n 0, 1) := by decide +kernel
theorem dX6_keep_1 : decode cX6_keep 1 = .ok (.invokevirtual 64, 3) := by decide +kernel
theorem dX6_keep_4 : decode cX6_keep 4 = .ok (.ifCond .eq 10, 3) := by decide +kernel
theorem dX6_keep_7 : decode cX6_keep 7 = .ok (.aload_n 0, 1) := by decide +kernel
theorem dX6_keep_8 : decode cX6_keep 8 = .ok (.invokevirtual 54, 3) := by decide +kernel
theorem dX6_keep_11 : decode cX6_keep 11 = .ok (.ifCond .eq 10, 3) := by decide +kernel
theorem dX6_keep_14 : decode cX6_keep 14 = .ok (.aload_n 0, 1) := by decide +kernel
theorem dX6_keep_15 : decode cX6_keep 15 = .ok (.getfield 36, 3) := by decide +kernel
theorem dX6_keep_18 : decode cX6_keep 18 = .ok (.goto 7, 3) := by decide +kernel
theorem dX6_keep_21 : decode cX6_keep 21 = .ok (.aload_n 0, 1) := by decide +kernel
theorem dX6_keep_22 : decode cX6_keep 22 = .ok (.getfield 40, 3) := by decide +kernel
theorem dX6_keep_25 : decode cX6_keep 25 = .ok (.astore_n 2, 1) := by decide +kernel
theorem dX6_keep_26 : decode cX6_keep 26 = .ok (.aload_n 0, 1) := by decide +kernel
theorem dX6_keep_27 : decode cX6_keep 27 = .ok (.getfield 23, 3) := by decide +kernel
theorem dX6_keep_30 : decode cX6_keep 30 = .ok (.invokevirtual 86, 3) := by decide +kernel
theorem dX6_keep_33 : decode cX6_keep 33 = .ok (.aload_n 0, 1) := by decide +kernel
theorem dX6_keep_34 : decode cX6_keep 34 = .ok (.getfield 23, 3) := by decide +kernel
theorem dX6_keep_37 : decode cX6_keep 37 = .ok (.aload_n 0, 1) := by decide +kernel
theorem dX6_keep_38 : decode cX6_keep 38 = .ok (.invokevirtual 64, 3) := by decide +kernel
theorem dX6_keep_41 : decode cX6_keep 41 = .ok (.iconst 1, 1) := by decide +kernel
theorem dX6_keep_42 : decode cX6_keep 42 = .ok (.iadd, 1) := by decide +kernel
theorem dX6_keep_43 : decode cX6_keep 43 = .ok (.i2l, 1) := by decide +kernel
theorem dX6_keep_44 : decode cX6_keep 44 = .ok (.iconst 4, 1) := by decide +kernel
theorem dX6_keep_45 : decode cX6_keep 45 = .ok (.invokevirtual 89, 3) := by decide +kernel
theorem dX6_keep_48 : decode cX6_keep 48 = .ok (.aload_n 0, 1) := by decide +kernel
theorem dX6_keep_49 : decode cX6_keep 49 = .ok (.getfield 23, 3) := by decide +kernel
theorem dX6_keep_52 : decode cX6_keep 52 = .ok (.aload_n 1, 1) := by decide +kernel
theorem dX6_keep_53 : decode cX6_keep 53 = .ok (.invokevirtual 93, 3) := by decide +kernel
theorem dX6_keep_56 : decode cX6_keep 56 = .ok (.i2l, 1) := by decide +kernel
theorem dX6_keep_57 : decode cX6_keep 57 = .ok (.iconst 2, 1) := by decide +kernel
theorem dX6_keep_58 : decode cX6_keep 58 = .ok (.invokevirtual 89, 3) := by decide +kernel
theorem dX6_keep_61 : decode cX6_keep 61 = .ok (.aload_n 0, 1) := by decide +kernel
theorem dX6_keep_62 : decode cX6_keep 62 = .ok (.getfield 23, 3) := by decide +kernel
theorem dX6_keep_65 : decode cX6_keep 65 = .ok (.aload_n 1, 1) := by decide +kernel
theorem dX6_keep_66 : decode cX6_keep 66 = .ok (.iconst 0, 1) := by decide +kernel
theorem dX6_keep_67 : decode cX6_keep 67 = .ok (.aload_n 1, 1) := by decide +kernel
theorem dX6_keep_68 : decode cX6_keep 68 = .ok (.invokevirtual 93, 3) := by decide +kernel
theorem dX6_keep_71 : decode cX6_keep 71 = .ok (.invokevirtual 96, 3) := by decide +kernel
theorem dX6_keep_74 : decode cX6_keep 74 = .ok (.aload_n 0, 1) := by decide +kernel
theorem dX6_keep_75 : decode cX6_keep 75 = .ok (.getfield 23, 3) := by decide +kernel
theorem dX6_keep_78 : decode cX6_keep 78 = .ok (.aload_n 0, 1) := by decide +kernel
theorem dX6_keep_79 : decode cX6_keep 79 = .ok (.getfield 23, 3) := by decide +kernel
theorem dX6_keep_82 : decode cX6_keep 82 = .ok (.iconst 0, 1) := by decide +kernel
theorem dX6_keep_83 : decode cX6_keep 83 = .ok (.aload_n 0, 1) := by decide +kernel
theorem dX6_keep_84 : decode cX6_keep 84 = .ok (.getfield 23, 3) := by decide +kernel
theorem dX6_keep_87 : decode cX6_keep 87 = .ok (.invokevirtual 93, 3) := by decide +kernel
theorem dX6_keep_90 : decode cX6_keep 90 = .ok (.invokevirtual 100, 3) := by decide +kernel
theorem dX6_keep_93 : decode cX6_keep 93 = .ok (.invokestatic 104, 3) := by decide +kernel
theorem dX6_keep_96 : decode cX6_keep 96 = .ok (.iconst 4, 1) := by decide +kernel
theorem dX6_keep_97 : decode cX6_keep 97 = .ok (.invokevirtual 89, 3) := by decide +kernel
theorem dX6_keep_100 : decode cX6_keep 100 = .ok (.aload_n 0, 1) := by decide +kernel
theorem dX6_keep_101 : decode cX6_keep 101 = .ok (.getfield 27, 3) := by decide +kernel
theorem dX6_keep_104 : decode cX6_keep 104 = .ok (.aload_n 2, 1) := by decide +kernel
theorem dX6_keep_105 : decode cX6_keep 105 = .ok (.getfield 108, 3) := by decide +kernel
theorem dX6_keep_108 : decode cX6_keep 108 = .ok (.invokevirtual 111, 3) := by decide +kernel
theorem dX6_keep_111 : decode cX6_keep 111 = .ok (.aload_n 0, 1) := by decide +kernel
theorem dX6_keep_112 : decode cX6_keep 112 = .ok (.getfield 27, 3) := by decide +kernel
theorem dX6_keep_115 : decode cX6_keep 115 = .ok (.aload_n 2, 1) := by decide +kernel
theorem dX6_keep_116 : decode cX6_keep 116 = .ok (.getfield 108, 3) := by decide +kernel
theorem dX6_keep_119 : decode cX6_keep 119 = .ok (.iconst 4, 1) := by decide +kernel
theorem dX6_keep_120 : decode cX6_keep 120 = .ok (.imul, 1) := by decide +kernel
theorem dX6_keep_121 : decode cX6_keep 121 = .ok (.aload_n 0, 1) := by decide +kernel
theorem dX6_keep_122 : decode cX6_keep 122 = .ok (.getfield 23, 3) := by decide +kernel
theorem dX6_keep_125 : decode cX6_keep 125 = .ok (.invokevirtual 116, 3) := by decide +kernel
theorem dX6_keep_128 : decode cX6_keep 128 = .ok (.aload_n 2, 1) := by decide +kernel
theorem dX6_keep_129 : decode cX6_keep 129 = .ok (.invokevirtual 120, 3) := by decide +kernel
theorem dX6_keep_132 : decode cX6_keep 132 = .ok (.return_, 1) := by decide +kernel
theorem dX7_init_0 : decode cX7_init 0 = .ok (.aload_n 0, 1) := by decide +kernel
theorem dX7_init_1 : decode cX7_init 1 = .ok (.invokespecial 1, 3) := by decide +kernel
theorem dX7_init_4 : decode cX7_init 4 = .ok (.aload_n 0, 1) := by decide +kernel
theorem dX7_init_5 : decode cX7_init 5 = .ok (.sipush 400, 3) := by decide +kernel
theorem dX7_init_8 : decode cX7_init 8 = .ok (.newarray .int, 2) := by decide +kernel
theorem dX7_init_10 : decode cX7_init 10 = .ok (.putfield 9, 3) := by decide +kernel
theorem dX7_init_13 : decode cX7_init 13 = .ok (.aload_n 0, 1) := by decide +kernel
theorem dX7_init_14 : decode cX7_init 14 = .ok (.sipush 400, 3) := by decide +kernel
theorem dX7_init_17 : decode cX7_init 17 = .ok (.newarray .long, 2) := by decide +kernel
theorem dX7_init_19 : decode cX7_init 19 = .ok (.putfield 13, 3) := by decide +kernel
theorem dX7_init_22 : decode cX7_init 22 = .ok (.aload_n 0, 1) := by decide +kernel
theorem dX7_init_23 : decode cX7_init 23 = .ok (.iconst 0, 1) := by decide +kernel
theorem dX7_init_24 : decode cX7_init 24 = .ok (.putfield 17, 3) := by decide +kernel
theorem dX7_init_27 : decode cX7_init 27 = .ok (.return_, 1) := by decide +kernel
theorem dX7_has_0 : decode cX7_has 0 = .ok (.iconst 0, 1) := by decide +kernel
theorem dX7_has_1 : decode cX7_has 1 = .ok (.istore 4, 2) := by decide +kernel
theorem dX7_has_3 : decode cX7_has 3 = .ok (.iload 4, 2) := by decide +kernel
theorem dX7_has_5 : decode cX7_has 5 = .ok (.aload_n 0, 1) := by decide +kernel
theorem dX7_has_6 : decode cX7_has 6 = .ok (.getfield 17, 3) := by decide +kernel
theorem dX7_has_9 : decode cX7_has 9 = .ok (.if_icmp .ge 42, 3) := by decide +kernel
theorem dX7_has_12 : decode cX7_has 12 = .ok (.iload 4, 2) := by decide +kernel
theorem dX7_has_14 : decode cX7_has 14 = .ok (.sipush 400, 3) := by decide +kernel
theorem dX7_has_17 : decode cX7_has 17 = .ok (.if_icmp .ge 34, 3) := by decide +kernel
theorem dX7_has_20 : decode cX7_has 20 = .ok (.aload_n 0, 1) := by decide +kernel
theorem dX7_has_21 : decode cX7_has 21 = .ok (.getfield 9, 3) := by decide +kernel
theorem dX7_has_24 : decode cX7_has 24 = .ok (.iload 4, 2) := by decide +kernel
theorem dX7_has_26 : decode cX7_has 26 = .ok (.iaload, 1) := by decide +kernel
theorem dX7_has_27 : decode cX7_has 27 = .ok (.iload_n 1, 1) := by decide +kernel
theorem dX7_has_28 : decode cX7_has 28 = .ok (.if_icmp .ne 17, 3) := by decide +kernel
theorem dX7_has_31 : decode cX7_has 31 = .ok (.aload_n 0, 1) := by decide +kernel
theorem dX7_has_32 : decode cX7_has 32 = .ok (.getfield 13, 3) := by decide +kernel
theorem dX7_has_35 : decode cX7_has 35 = .ok (.iload 4, 2) := by decide +kernel
theorem dX7_has_37 : decode cX7_has 37 = .ok (.laload, 1) := by decide +kernel
theorem dX7_has_38 : decode cX7_has 38 = .ok (.lload_n 2, 1) := by decide +kernel
theorem dX7_has_39 : decode cX7_has 39 = .ok (.lcmp, 1) := by decide +kernel
theorem dX7_has_40 : decode cX7_has 40 = .ok (.ifCond .ne 5, 3) := by decide +kernel
theorem dX7_has_43 : decode cX7_has 43 = .ok (.iconst 1, 1) := by decide +kernel
theorem dX7_has_44 : decode cX7_has 44 = .ok (.ireturn, 1) := by decide +kernel
theorem dX7_has_45 : decode cX7_has 45 = .ok (.iinc 4 1, 3) := by decide +kernel
theorem dX7_has_48 : decode cX7_has 48 = .ok (.goto (-45), 3) := by decide +kernel
theorem dX7_has_51 : decode cX7_has 51 = .ok (.iconst 0, 1) := by decide +kernel
theorem dX7_has_52 : decode cX7_has 52 = .ok (.ireturn, 1) := by decide +kernel
theorem dX7_add_0 : decode cX7_add 0 = .ok (.aload_n 0, 1) := by decide +kernel
theorem dX7_add_1 : decode cX7_add 1 = .ok (.iload_n 1, 1) := by decide +kernel
theorem dX7_add_2 : decode cX7_add 2 = .ok (.lload_n 2, 1) := by decide +kernel
theorem dX7_add_3 : decode cX7_add 3 = .ok (.invokevirtual 21, 3) := by decide +kernel
theorem dX7_add_6 : decode cX7_add 6 = .ok (.ifCond .eq 5, 3) := by decide +kernel
theorem dX7_add_9 : decode cX7_add 9 = .ok (.iconst 1, 1) := by decide +kernel
theorem dX7_add_10 : decode cX7_add 10 = .ok (.ireturn, 1) := by decide +kernel
theorem dX7_add_11 : decode cX7_add 11 = .ok (.aload_n 0, 1) := by decide +kernel
theorem dX7_add_12 : decode cX7_add 12 = .ok (.getfield 17, 3) := by decide +kernel
theorem dX7_add_15 : decode cX7_add 15 = .ok (.sipush 400, 3) := by decide +kernel
theorem dX7_add_18 : decode cX7_add 18 = .ok (.if_icmp .lt 5, 3) := by decide +kernel
theorem dX7_add_21 : decode cX7_add 21 = .ok (.iconst 0, 1) := by decide +kernel
theorem dX7_add_22 : decode cX7_add 22 = .ok (.ireturn, 1) := by decide +kernel
theorem dX7_add_23 : decode cX7_add 23 = .ok (.aload_n 0, 1) := by decide +kernel
theorem dX7_add_24 : decode cX7_add 24 = .ok (.getfield 9, 3) := by decide +kernel
theorem dX7_add_27 : decode cX7_add 27 = .ok (.aload_n 0, 1) := by decide +kernel
theorem dX7_add_28 : decode cX7_add 28 = .ok (.getfield 17, 3) := by decide +kernel
theorem dX7_add_31 : decode cX7_add 31 = .ok (.iload_n 1, 1) := by decide +kernel
theorem dX7_add_32 : decode cX7_add 32 = .ok (.iastore, 1) := by decide +kernel
theorem dX7_add_33 : decode cX7_add 33 = .ok (.aload_n 0, 1) := by decide +kernel
theorem dX7_add_34 : decode cX7_add 34 = .ok (.getfield 13, 3) := by decide +kernel
theorem dX7_add_37 : decode cX7_add 37 = .ok (.aload_n 0, 1) := by decide +kernel
theorem dX7_add_38 : decode cX7_add 38 = .ok (.getfield 17, 3) := by decide +kernel
theorem dX7_add_41 : decode cX7_add 41 = .ok (.lload_n 2, 1) := by decide +kernel
theorem dX7_add_42 : decode cX7_add 42 = .ok (.lastore, 1) := by decide +kernel
theorem dX7_add_43 : decode cX7_add 43 = .ok (.aload_n 0, 1) := by decide +kernel
theorem dX7_add_44 : decode cX7_add 44 = .ok (.dup, 1) := by decide +kernel
theorem dX7_add_45 : decode cX7_add 45 = .ok (.getfield 17, 3) := by decide +kernel
theorem dX7_add_48 : decode cX7_add 48 = .ok (.iconst 1, 1) := by decide +kernel
theorem dX7_add_49 : decode cX7_add 49 = .ok (.iadd, 1) := by decide +kernel
theorem dX7_add_50 : decode cX7_add 50 = .ok (.putfield 17, 3) := by decide +kernel
theorem dX7_add_53 : decode cX7_add 53 = .ok (.iconst 1, 1) := by decide +kernel
theorem dX7_add_54 : decode cX7_add 54 = .ok (.ireturn, 1) := by decide +kernel
