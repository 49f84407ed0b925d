theorem dX11_awaits_61 : decode cX11_awaits 61 = .ok (.iadd, 1) := by decide +kernel
theorem dX11_awaits_62 : decode cX11_awaits 62 = .ok (.ireturn, 1) := by decide +kernel
theorem dX11_awaits_63 : decode cX11_awaits 63 = .ok (.aload_n 0, 1) := by decide +kernel
theorem dX11_awaits_64 : decode cX11_awaits 64 = .ok (.getfield 134, 3) := by decide +kernel
theorem dX11_awaits_67 : decode cX11_awaits 67 = .ok (.iconst 3, 1) := by decide +kernel
theorem dX11_awaits_68 : decode cX11_awaits 68 = .ok (.if_icmp .eq 11, 3) := by decide +kernel
theorem dX11_awaits_71 : decode cX11_awaits 71 = .ok (.aload_n 0, 1) := by decide +kernel
theorem dX11_awaits_72 : decode cX11_awaits 72 = .ok (.getfield 134, 3) := by decide +kernel
theorem dX11_awaits_75 : decode cX11_awaits 75 = .ok (.iconst 4, 1) := by decide +kernel
theorem dX11_awaits_76 : decode cX11_awaits 76 = .ok (.if_icmp .ne 19, 3) := by decide +kernel
theorem dX11_awaits_79 : decode cX11_awaits 79 = .ok (.aload_n 0, 1) := by decide +kernel
theorem dX11_awaits_80 : decode cX11_awaits 80 = .ok (.aload_n 0, 1) := by decide +kernel
theorem dX11_awaits_81 : decode cX11_awaits 81 = .ok (.getfield 134, 3) := by decide +kernel
theorem dX11_awaits_84 : decode cX11_awaits 84 = .ok (.iconst 2, 1) := by decide +kernel
theorem dX11_awaits_85 : decode cX11_awaits 85 = .ok (.isub, 1) := by decide +kernel
theorem dX11_awaits_86 : decode cX11_awaits 86 = .ok (.invokevirtual 322, 3) := by decide +kernel
theorem dX11_awaits_89 : decode cX11_awaits 89 = .ok (.istore_n 2, 1) := by decide +kernel
theorem dX11_awaits_90 : decode cX11_awaits 90 = .ok (.aload_n 0, 1) := by decide +kernel
theorem dX11_awaits_91 : decode cX11_awaits 91 = .ok (.getfield 247, 3) := by decide +kernel
theorem dX11_awaits_94 : decode cX11_awaits 94 = .ok (.ireturn, 1) := by decide +kernel
theorem dX11_awaits_95 : decode cX11_awaits 95 = .ok (.aload_n 0, 1) := by decide +kernel
theorem dX11_awaits_96 : decode cX11_awaits 96 = .ok (.getfield 134, 3) := by decide +kernel
theorem dX11_awaits_99 : decode cX11_awaits 99 = .ok (.iconst 5, 1) := by decide +kernel
theorem dX11_awaits_100 : decode cX11_awaits 100 = .ok (.if_icmp .ne 10, 3) := by decide +kernel
theorem dX11_awaits_103 : decode cX11_awaits 103 = .ok (.aload_n 0, 1) := by decide +kernel
theorem dX11_awaits_104 : decode cX11_awaits 104 = .ok (.getfield 377, 3) := by decide +kernel
theorem dX11_awaits_107 : decode cX11_awaits 107 = .ok (.goto 4, 3) := by decide +kernel
theorem dX11_awaits_110 : decode cX11_awaits 110 = .ok (.iconst 0, 1) := by decide +kernel
theorem dX11_awaits_111 : decode cX11_awaits 111 = .ok (.ireturn, 1) := by decide +kernel
theorem dX11_stop_0 : decode cX11_stop 0 = .ok (.aload_n 0, 1) := by decide +kernel
theorem dX11_stop_1 : decode cX11_stop 1 = .ok (.getfield 124, 3) := by decide +kernel
theorem dX11_stop_4 : decode cX11_stop 4 = .ok (.ifCond .eq 6, 3) := by decide +kernel
theorem dX11_stop_7 : decode cX11_stop 7 = .ok (.bipush (-3), 2) := by decide +kernel
theorem dX11_stop_9 : decode cX11_stop 9 = .ok (.ireturn, 1) := by decide +kernel
theorem dX11_stop_10 : decode cX11_stop 10 = .ok (.aload_n 0, 1) := by decide +kernel
theorem dX11_stop_11 : decode cX11_stop 11 = .ok (.getfield 134, 3) := by decide +kernel
theorem dX11_stop_14 : decode cX11_stop 14 = .ok (.ifCond .ne 7, 3) := by decide +kernel
theorem dX11_stop_17 : decode cX11_stop 17 = .ok (.iconst 0, 1) := by decide +kernel
theorem dX11_stop_18 : decode cX11_stop 18 = .ok (.goto 4, 3) := by decide +kernel
theorem dX11_stop_21 : decode cX11_stop 21 = .ok (.iconst 1, 1) := by decide +kernel
theorem dX11_stop_22 : decode cX11_stop 22 = .ok (.istore_n 1, 1) := by decide +kernel
theorem dX11_stop_23 : decode cX11_stop 23 = .ok (.aload_n 0, 1) := by decide +kernel
theorem dX11_stop_24 : decode cX11_stop 24 = .ok (.iconst 0, 1) := by decide +kernel
theorem dX11_stop_25 : decode cX11_stop 25 = .ok (.putfield 134, 3) := by decide +kernel
theorem dX11_stop_28 : decode cX11_stop 28 = .ok (.iload_n 1, 1) := by decide +kernel
theorem dX11_stop_29 : decode cX11_stop 29 = .ok (.ireturn, 1) := by decide +kernel
theorem dX11_power_0 : decode cX11_power 0 = .ok (.iload_n 1, 1) := by decide +kernel
theorem dX11_power_1 : decode cX11_power 1 = .ok (.iconst (-1), 1) := by decide +kernel
theorem dX11_power_2 : decode cX11_power 2 = .ok (.if_icmp .lt 10, 3) := by decide +kernel
theorem dX11_power_5 : decode cX11_power 5 = .ok (.iload_n 1, 1) := by decide +kernel
theorem dX11_power_6 : decode cX11_power 6 = .ok (.sipush 500, 3) := by decide +kernel
theorem dX11_power_9 : decode cX11_power 9 = .ok (.if_icmp .le 5, 3) := by decide +kernel
theorem dX11_power_12 : decode cX11_power 12 = .ok (.iconst (-1), 1) := by decide +kernel
theorem dX11_power_13 : decode cX11_power 13 = .ok (.ireturn, 1) := by decide +kernel
theorem dX11_power_14 : decode cX11_power 14 = .ok (.aload_n 0, 1) := by decide +kernel
theorem dX11_power_15 : decode cX11_power 15 = .ok (.iload_n 1, 1) := by decide +kernel
theorem dX11_power_16 : decode cX11_power 16 = .ok (.putfield 13, 3) := by decide +kernel
theorem dX11_power_19 : decode cX11_power 19 = .ok (.aload_n 0, 1) := by decide +kernel
theorem dX11_power_20 : decode cX11_power 20 = .ok (.iload_n 2, 1) := by decide +kernel
theorem dX11_power_21 : decode cX11_power 21 = .ok (.putfield 147, 3) := by decide +kernel
theorem dX11_power_24 : decode cX11_power 24 = .ok (.iconst 1, 1) := by decide +kernel
theorem dX11_power_25 : decode cX11_power 25 = .ok (.ireturn, 1) := by decide +kernel
theorem dX11_runConfirmed_0 : decode cX11_runConfirmed 0 = .ok (.aload_n 0, 1) := by decide +kernel
theorem dX11_runConfirmed_1 : decode cX11_runConfirmed 1 = .ok (.invokevirtual 99, 3) := by decide +kernel
theorem dX11_runConfirmed_4 : decode cX11_runConfirmed 4 = .ok (.aload_n 0, 1) := by decide +kernel
theorem dX11_runConfirmed_5 : decode cX11_runConfirmed 5 = .ok (.aload_n 0, 1) := by decide +kernel
theorem dX11_runConfirmed_6 : decode cX11_runConfirmed 6 = .ok (.getfield 168, 3) := by decide +kernel
theorem dX11_runConfirmed_9 : decode cX11_runConfirmed 9 = .ok (.aload_n 0, 1) := by decide +kernel
theorem dX11_runConfirmed_10 : decode cX11_runConfirmed 10 = .ok (.getfield 174, 3) := by decide +kernel
theorem dX11_runConfirmed_13 : decode cX11_runConfirmed 13 = .ok (.invokevirtual 88, 3) := by decide +kernel
theorem dX11_runConfirmed_16 : decode cX11_runConfirmed 16 = .ok (.aload_n 0, 1) := by decide +kernel
theorem dX11_runConfirmed_17 : decode cX11_runConfirmed 17 = .ok (.getfield 177, 3) := by decide +kernel
theorem dX11_runConfirmed_20 : decode cX11_runConfirmed 20 = .ok (.lcmp, 1) := by decide +kernel
theorem dX11_runConfirmed_21 : decode cX11_runConfirmed 21 = .ok (.ifCond .ne 7, 3) := by decide +kernel
theorem dX11_runConfirmed_24 : decode cX11_runConfirmed 24 = .ok (.iconst 1, 1) := by decide +kernel
theorem dX11_runConfirmed_25 : decode cX11_runConfirmed 25 = .ok (.goto 4, 3) := by decide +kernel
theorem dX11_runConfirmed_28 : decode cX11_runConfirmed 28 = .ok (.iconst 0, 1) := by decide +kernel
theorem dX11_runConfirmed_29 : decode cX11_runConfirmed 29 = .ok (.istore_n 1, 1) := by decide +kernel
theorem dX11_runConfirmed_30 : decode cX11_runConfirmed 30 = .ok (.aload_n 0, 1) := by decide +kernel
theorem dX11_runConfirmed_31 : decode cX11_runConfirmed 31 = .ok (.iload_n 1, 1) := by decide +kernel
theorem dX11_runConfirmed_32 : decode cX11_runConfirmed 32 = .ok (.ifCond .eq 10, 3) := by decide +kernel
theorem dX11_runConfirmed_35 : decode cX11_runConfirmed 35 = .ok (.aload_n 0, 1) := by decide +kernel
theorem dX11_runConfirmed_36 : decode cX11_runConfirmed 36 = .ok (.getfield 171, 3) := by decide +kernel
theorem dX11_runConfirmed_39 : decode cX11_runConfirmed 39 = .ok (.goto 4, 3) := by decide +kernel
theorem dX11_runConfirmed_42 : decode cX11_runConfirmed 42 = .ok (.iconst 0, 1) := by decide +kernel
theorem dX11_runConfirmed_43 : decode cX11_runConfirmed 43 = .ok (.putfield 128, 3) := by decide +kernel
theorem dX11_runConfirmed_46 : decode cX11_runConfirmed 46 = .ok (.return_, 1) := by decide +kernel
theorem dX11_boot_0 : decode cX11_boot 0 = .ok (.aload_n 0, 1) := by decide +kernel
theorem dX11_boot_1 : decode cX11_boot 1 = .ok (.iconst 0, 1) := by decide +kernel
theorem dX11_boot_2 : decode cX11_boot 2 = .ok (.putfield 124, 3) := by decide +kernel
theorem dX11_boot_5 : decode cX11_boot 5 = .ok (.aload_n 0, 1) := by decide +kernel
theorem dX11_boot_6 : decode cX11_boot 6 = .ok (.iconst 0, 1) := by decide +kernel
theorem dX11_boot_7 : decode cX11_boot 7 = .ok (.putfield 134, 3) := by decide +kernel
theorem dX11_boot_10 : decode cX11_boot 10 = .ok (.aload_n 0, 1) := by decide +kernel
theorem dX11_boot_11 : decode cX11_boot 11 = .ok (.iconst 0, 1) := by decide +kernel
theorem dX11_boot_12 : decode cX11_boot 12 = .ok (.putfield 128, 3) := by decide +kernel
theorem dX11_boot_15 : decode cX11_boot 15 = .ok (.aload_n 0, 1) := by decide +kernel
theorem dX11_boot_16 : decode cX11_boot 16 = .ok (.iconst 0, 1) := by decide +kernel
theorem dX11_boot_17 : decode cX11_boot 17 = .ok (.putfield 131, 3) := by decide +kernel
theorem dX11_boot_20 : decode cX11_boot 20 = .ok (.aload_n 0, 1) := by decide +kernel
theorem dX11_boot_21 : decode cX11_boot 21 = .ok (.invokevirtual 99, 3) := by decide +kernel
theorem dX11_boot_24 : decode cX11_boot 24 = .ok (.aload_n 0, 1) := by decide +kernel
theorem dX11_boot_25 : decode cX11_boot 25 = .ok (.getfield 180, 3) := by decide +kernel
theorem dX11_boot_28 : decode cX11_boot 28 = .ok (.iconst 2, 1) := by decide +kernel
theorem dX11_boot_29 : decode cX11_boot 29 = .ok (.if_icmp .ne 66, 3) := by decide +kernel
theorem dX11_boot_32 : decode cX11_boot 32 = .ok (.aload_n 0, 1) := by decide +kernel
theorem dX11_boot_33 : decode cX11_boot 33 = .ok (.iconst 3, 1) := by decide +kernel
theorem dX11_boot_34 : decode cX11_boot 34 = .ok (.invokevirtual 389, 3) := by decide +kernel
theorem dX11_boot_37 : decode cX11_boot 37 = .ok (.aload_n 0, 1) := by decide +kernel
theorem dX11_boot_38 : decode cX11_boot 38 = .ok (.getfield 124, 3) := by decide +kernel
theorem dX11_boot_41 : decode cX11_boot 41 = .ok (.ifCond .eq 6, 3) := by decide +kernel
theorem dX11_boot_44 : decode cX11_boot 44 = .ok (.bipush (-3), 2) := by decide +kernel
theorem dX11_boot_46 : decode cX11_boot 46 = .ok (.ireturn, 1) := by decide +kernel
theorem dX11_boot_47 : decode cX11_boot 47 = .ok (.aload_n 0, 1) := by decide +kernel
theorem dX11_boot_48 : decode cX11_boot 48 = .ok (.iconst 1, 1) := by decide +kernel
theorem dX11_boot_49 : decode cX11_boot 49 = .ok (.aload_n 0, 1) := by decide +kernel
theorem dX11_boot_50 : decode cX11_boot 50 = .ok (.getfield 168, 3) := by decide +kernel
theorem dX11_boot_53 : decode cX11_boot 53 = .ok (.isub, 1) := by decide +kernel
theorem dX11_boot_54 : decode cX11_boot 54 = .ok (.aload_n 0, 1) := by decide +kernel
theorem dX11_boot_55 : decode cX11_boot 55 = .ok (.getfield 186, 3) := by decide +kernel
theorem dX11_boot_58 : decode cX11_boot 58 = .ok (.invokevirtual 88, 3) := by decide +kernel
theorem dX11_boot_61 : decode cX11_boot 61 = .ok (.aload_n 0, 1) := by decide +kernel
theorem dX11_boot_62 : decode cX11_boot 62 = .ok (.getfield 189, 3) := by decide +kernel
theorem dX11_boot_65 : decode cX11_boot 65 = .ok (.lcmp, 1) := by decide +kernel
theorem dX11_boot_66 : decode cX11_boot 66 = .ok (.ifCond .ne 21, 3) := by decide +kernel
theorem dX11_boot_69 : decode cX11_boot 69 = .ok (.aload_n 0, 1) := by decide +kernel
theorem dX11_boot_70 : decode cX11_boot 70 = .ok (.aload_n 0, 1) := by decide +kernel
theorem dX11_boot_71 : decode cX11_boot 71 = .ok (.getfield 183, 3) := by decide +kernel
theorem dX11_boot_74 : decode cX11_boot 74 = .ok (.putfield 128, 3) := by decide +kernel
theorem dX11_boot_77 : decode cX11_boot 77 = .ok (.aload_n 0, 1) := by decide +kernel
theorem dX11_boot_78 : decode cX11_boot 78 = .ok (.iconst 1, 1) := by decide +kernel
theorem dX11_boot_79 : decode cX11_boot 79 = .ok (.putfield 131, 3) := by decide +kernel
theorem dX11_boot_82 : decode cX11_boot 82 = .ok (.aload_n 0, 1) := by decide +kernel
theorem dX11_boot_83 : decode cX11_boot 83 = .ok (.getfield 128, 3) := by decide +kernel
theorem dX11_boot_86 : decode cX11_boot 86 = .ok (.ireturn, 1) := by decide +kernel
theorem dX11_boot_87 : decode cX11_boot 87 = .ok (.aload_n 0, 1) := by decide +kernel
theorem dX11_boot_88 : decode cX11_boot 88 = .ok (.iconst 0, 1) := by decide +kernel
theorem dX11_boot_89 : decode cX11_boot 89 = .ok (.invokevirtual 389, 3) := by decide +kernel
theorem dX11_boot_92 : decode cX11_boot 92 = .ok (.goto 16, 3) := by decide +kernel
theorem dX11_boot_95 : decode cX11_boot 95 = .ok (.aload_n 0, 1) := by decide +kernel
theorem dX11_boot_96 : decode cX11_boot 96 = .ok (.getfield 180, 3) := by decide +kernel
theorem dX11_boot_99 : decode cX11_boot 99 = .ok (.iconst 3, 1) := by decide +kernel
theorem dX11_boot_100 : decode cX11_boot 100 = .ok (.if_icmp .ne 8, 3) := by decide +kernel
theorem dX11_boot_103 : decode cX11_boot 103 = .ok (.aload_n 0, 1) := by decide +kernel
theorem dX11_boot_104 : decode cX11_boot 104 = .ok (.iconst 0, 1) := by decide +kernel
theorem dX11_boot_105 : decode cX11_boot 105 = .ok (.invokevirtual 389, 3) := by decide +kernel
theorem dX11_boot_108 : decode cX11_boot 108 = .ok (.aload_n 0, 1) := by decide +kernel
theorem dX11_boot_109 : decode cX11_boot 109 = .ok (.getfield 124, 3) := by decide +kernel
theorem dX11_boot_112 : decode cX11_boot 112 = .ok (.ifCond .eq 6, 3) := by decide +kernel
theorem dX11_boot_115 : decode cX11_boot 115 = .ok (.bipush (-3), 2) := by decide +kernel
theorem dX11_boot_117 : decode cX11_boot 117 = .ok (.ireturn, 1) := by decide +kernel
theorem dX11_boot_118 : decode cX11_boot 118 = .ok (.aload_n 0, 1) := by decide +kernel
theorem dX11_boot_119 : decode cX11_boot 119 = .ok (.invokevirtual 392, 3) := by decide +kernel
theorem dX11_boot_122 : decode cX11_boot 122 = .ok (.aload_n 0, 1) := by decide +kernel
theorem dX11_boot_123 : decode cX11_boot 123 = .ok (.getfield 128, 3) := by decide +kernel
theorem dX11_boot_126 : decode cX11_boot 126 = .ok (.ifCond .ne 8, 3) := by decide +kernel
theorem dX11_boot_129 : decode cX11_boot 129 = .ok (.bipush (-2), 2) := by decide +kernel
theorem dX11_boot_131 : decode cX11_boot 131 = .ok (.goto 7, 3) := by decide +kernel
theorem dX11_boot_134 : decode cX11_boot 134 = .ok (.aload_n 0, 1) := by decide +kernel
theorem dX11_boot_135 : decode cX11_boot 135 = .ok (.getfield 128, 3) := by decide +kernel
theorem dX11_boot_138 : decode cX11_boot 138 = .ok (.ireturn, 1) := by decide +kernel
theorem dX11_test_0 : decode cX11_test 0 = .ok (.aload_n 0, 1) := by decide +kernel
theorem dX11_test_1 : decode cX11_test 1 = .ok (.getfield 124, 3) := by decide +kernel
theorem dX11_test_4 : decode cX11_test 4 = .ok (.ifCond .eq 6, 3) := by decide +kernel
theorem dX11_test_7 : decode cX11_test 7 = .ok (.bipush (-3), 2) := by decide +kernel
theorem dX11_test_9 : decode cX11_test 9 = .ok (.ireturn, 1) := by decide +kernel
theorem dX11_test_10 : decode cX11_test 10 = .ok (.aload_n 0, 1) := by decide +kernel
theorem dX11_test_11 : decode cX11_test 11 = .ok (.getfield 128, 3) := by decide +kernel
theorem dX11_test_14 : decode cX11_test 14 = .ok (.ifCond .eq 10, 3) := by decide +kernel
theorem dX11_test_17 : decode cX11_test 17 = .ok (.aload_n 0, 1) := by decide +kernel
theorem dX11_test_18 : decode cX11_test 18 = .ok (.getfield 131, 3) := by decide +kernel
theorem dX11_test_21 : decode cX11_test 21 = .ok (.ifCond .ne 6, 3) := by decide +kernel
theorem dX11_test_24 : decode cX11_test 24 = .ok (.bipush (-4), 2) := by decide +kernel
theorem dX11_test_26 : decode cX11_test 26 = .ok (.ireturn, 1) := by decide +kernel
theorem dX11_test_27 : decode cX11_test 27 = .ok (.aload_n 0, 1) := by decide +kernel
theorem dX11_test_28 : decode cX11_test 28 = .ok (.invokevirtual 99, 3) := by decide +kernel
theorem dX11_test_31 : decode cX11_test 31 = .ok (.iload_n 1, 1) := by decide +kernel
theorem dX11_test_32 : decode cX11_test 32 = .ok (.ifCond .eq 37, 3) := by decide +kernel
theorem dX11_test_35 : decode cX11_test 35 = .ok (.aload_n 0, 1) := by decide +kernel
theorem dX11_test_36 : decode cX11_test 36 = .ok (.iconst 1, 1) := by decide +kernel
theorem dX11_test_37 : decode cX11_test 37 = .ok (.aload_n 0, 1) := by decide +kernel
theorem dX11_test_38 : decode cX11_test 38 = .ok (.getfield 168, 3) := by decide +kernel
theorem dX11_test_41 : decode cX11_test 41 = .ok (.isub, 1) := by decide +kernel
theorem dX11_test_42 : decode cX11_test 42 = .ok (.putfield 168, 3) := by decide +kernel
theorem dX11_test_45 : decode cX11_test 45 = .ok (.aload_n 0, 1) := by decide +kernel
theorem dX11_test_46 : decode cX11_test 46 = .ok (.aload_n 0, 1) := by decide +kernel
theorem dX11_test_47 : decode cX11_test 47 = .ok (.getfield 183, 3) := by decide +kernel
theorem dX11_test_50 : decode cX11_test 50 = .ok (.putfield 171, 3) := by decide +kernel
theorem dX11_test_53 : decode cX11_test 53 = .ok (.aload_n 0, 1) := by decide +kernel
theorem dX11_test_54 : decode cX11_test 54 = .ok (.aload_n 0, 1) := by decide +kernel
theorem dX11_test_55 : decode cX11_test 55 = .ok (.getfield 186, 3) := by decide +kernel
theorem dX11_test_58 : decode cX11_test 58 = .ok (.putfield 174, 3) := by decide +kernel
theorem dX11_test_61 : decode cX11_test 61 = .ok (.aload_n 0, 1) := by decide +kernel
theorem dX11_test_62 : decode cX11_test 62 = .ok (.aload_n 0, 1) := by decide +kernel
theorem dX11_test_63 : decode cX11_test 63 = .ok (.getfield 189, 3) := by decide +kernel
theorem dX11_test_66 : decode cX11_test 66 = .ok (.putfield 177, 3) := by decide +kernel
theorem dX11_test_69 : decode cX11_test 69 = .ok (.aload_n 0, 1) := by decide +kernel
theorem dX11_test_70 : decode cX11_test 70 = .ok (.iconst 0, 1) := by decide +kernel
theorem dX11_test_71 : decode cX11_test 71 = .ok (.invokevirtual 389, 3) := by decide +kernel
theorem dX11_test_74 : decode cX11_test 74 = .ok (.aload_n 0, 1) := by decide +kernel
theorem dX11_test_75 : decode cX11_test 75 = .ok (.getfield 124, 3) := by decide +kernel
theorem dX11_test_78 : decode cX11_test 78 = .ok (.ifCond .eq 6, 3) := by decide +kernel
theorem dX11_test_81 : decode cX11_test 81 = .ok (.bipush (-3), 2) := by decide +kernel
theorem dX11_test_83 : decode cX11_test 83 = .ok (.ireturn, 1) := by decide +kernel
theorem dX11_test_84 : decode cX11_test 84 = .ok (.aload_n 0, 1) := by decide +kernel
theorem dX11_test_85 : decode cX11_test 85 = .ok (.iconst 0, 1) := by decide +kernel
theorem dX11_test_86 : decode cX11_test 86 = .ok (.putfield 131, 3) := by decide +kernel
theorem dX11_test_89 : decode cX11_test 89 = .ok (.aload_n 0, 1) := by decide +kernel
theorem dX11_test_90 : decode cX11_test 90 = .ok (.iload_n 1, 1) := by decide +kernel
theorem dX11_test_91 : decode cX11_test 91 = .ok (.ifCond .eq 10, 3) := by decide +kernel
theorem dX11_test_94 : decode cX11_test 94 = .ok (.aload_n 0, 1) := by decide +kernel
theorem dX11_test_95 : decode cX11_test 95 = .ok (.getfield 128, 3) := by decide +kernel
theorem dX11_test_98 : decode cX11_test 98 = .ok (.goto 4, 3) := by decide +kernel
theorem dX11_test_101 : decode cX11_test 101 = .ok (.iconst 0, 1) := by decide +kernel
theorem dX11_test_102 : decode cX11_test 102 = .ok (.putfield 128, 3) := by decide +kernel
theorem dX11_test_105 : decode cX11_test 105 = .ok (.aload_n 0, 1) := by decide +kernel
theorem dX11_test_106 : decode cX11_test 106 = .ok (.getfield 128, 3) := by decide +kernel
theorem dX11_test_109 : decode cX11_test 109 = .ok (.ireturn, 1) := by decide +kernel
theorem dX11_told_0 : decode cX11_told 0 = .ok (.aload_n 0, 1) := by decide +kernel
theorem dX11_told_1 : decode cX11_told 1 = .ok (.invokevirtual 99, 3) := by decide +kernel
theorem dX11_told_4 : decode cX11_told 4 = .ok (.iload_n 1, 1) := by decide +kernel
theorem dX11_told_5 : decode cX11_told 5 = .ok (.tableswitch 177 0 14 #[75, 88, 93, 106, 111, 116, 121, 126, 131, 136, 141, 146, 151, 156, 161], 75) := by decide +kernel
theorem dX11_told_80 : decode cX11_told 80 = .ok (.aload_n 0, 1) := by decide +kernel
theorem dX11_told_81 : decode cX11_told 81 = .ok (.getfield 124, 3) := by decide +kernel
theorem dX11_told_84 : decode cX11_told 84 = .ok (.ifCond .eq 7, 3) := by decide +kernel
theorem dX11_told_87 : decode cX11_told 87 = .ok (.iconst 1, 1) := by decide +kernel
theorem dX11_told_88 : decode cX11_told 88 = .ok (.goto 4, 3) := by decide +kernel
theorem dX11_told_91 : decode cX11_told 91 = .ok (.iconst 0, 1) := by decide +kernel
theorem dX11_told_92 : decode cX11_told 92 = .ok (.ireturn, 1) := by decide +kernel
theorem dX11_told_93 : decode cX11_told 93 = .ok (.aload_n 0, 1) := by decide +kernel
theorem dX11_told_94 : decode cX11_told 94 = .ok (.getfield 128, 3) := by decide +kernel
theorem dX11_told_97 : decode cX11_told 97 = .ok (.ireturn, 1) := by decide +kernel
theorem dX11_told_98 : decode cX11_told 98 = .ok (.aload_n 0, 1) := by decide +kernel
theorem dX11_told_99 : decode cX11_told 99 = .ok (.getfield 131, 3) := by decide +kernel
theorem dX11_told_102 : decode cX11_told 102 = .ok (.ifCond .eq 7, 3) := by decide +kernel
theorem dX11_told_105 : decode cX11_told 105 = .ok (.iconst 1, 1) := by decide +kernel
theorem dX11_told_106 : decode cX11_told 106 = .ok (.goto 4, 3) := by decide +kernel
theorem dX11_told_109 : decode cX11_told 109 = .ok (.iconst 0, 1) := by decide +kernel
theorem dX11_told_110 : decode cX11_told 110 = .ok (.ireturn, 1) := by decide +kernel
theorem dX11_told_111 : decode cX11_told 111 = .ok (.aload_n 0, 1) := by decide +kernel
theorem dX11_told_112 : decode cX11_told 112 = .ok (.getfield 168, 3) := by decide +kernel
theorem dX11_told_115 : decode cX11_told 115 = .ok (.ireturn, 1) := by decide +kernel
theorem dX11_told_116 : decode cX11_told 116 = .ok (.aload_n 0, 1) := by decide +kernel
theorem dX11_told_117 : decode cX11_told 117 = .ok (.getfield 171, 3) := by decide +kernel
theorem dX11_told_120 : decode cX11_told 120 = .ok (.ireturn, 1) := by decide +kernel
theorem dX11_told_121 : decode cX11_told 121 = .ok (.aload_n 0, 1) := by decide +kernel
theorem dX11_told_122 : decode cX11_told 122 = .ok (.getfield 174, 3) := by decide +kernel
theorem dX11_told_125 : decode cX11_told 125 = .ok (.ireturn, 1) := by decide +kernel
theorem dX11_told_126 : decode cX11_told 126 = .ok (.aload_n 0, 1) := by decide +kernel
theorem dX11_told_127 : decode cX11_told 127 = .ok (.getfield 180, 3) := by decide +kernel
theorem dX11_told_130 : decode cX11_told 130 = .ok (.ireturn, 1) := by decide +kernel
theorem dX11_told_131 : decode cX11_told 131 = .ok (.aload_n 0, 1) := by decide +kernel
theorem dX11_told_132 : decode cX11_told 132 = .ok (.getfield 183, 3) := by decide +kernel
theorem dX11_told_135 : decode cX11_told 135 = .ok (.ireturn, 1) := by decide +kernel
theorem dX11_told_136 : decode cX11_told 136 = .ok (.aload_n 0, 1) := by decide +kernel
theorem dX11_told_137 : decode cX11_told 137 = .ok (.getfield 186, 3) := by decide +kernel
theorem dX11_told_140 : decode cX11_told 140 = .ok (.ireturn, 1) := by decide +kernel
theorem dX11_told_141 : decode cX11_told 141 = .ok (.aload_n 0, 1) := by decide +kernel
theorem dX11_told_142 : decode cX11_told 142 = .ok (.getfield 96, 3) := by decide +kernel
theorem dX11_told_145 : decode cX11_told 145 = .ok (.ireturn, 1) := by decide +kernel
theorem dX11_told_146 : decode cX11_told 146 = .ok (.aload_n 0, 1) := by decide +kernel
theorem dX11_told_147 : decode cX11_told 147 = .ok (.getfield 137, 3) := by decide +kernel
theorem dX11_told_150 : decode cX11_told 150 = .ok (.ireturn, 1) := by decide +kernel
theorem dX11_told_151 : decode cX11_told 151 = .ok (.aload_n 0, 1) := by decide +kernel
theorem dX11_told_152 : decode cX11_told 152 = .ok (.getfield 144, 3) := by decide +kernel
theorem dX11_told_155 : decode cX11_told 155 = .ok (.ireturn, 1) := by decide +kernel
theorem dX11_told_156 : decode cX11_told 156 = .ok (.aload_n 0, 1) := by decide +kernel
theorem dX11_told_157 : decode cX11_told 157 = .ok (.getfield 13, 3) := by decide +kernel
theorem dX11_told_160 : decode cX11_told 160 = .ok (.ireturn, 1) := by decide +kernel
theorem dX11_told_161 : decode cX11_told 161 = .ok (.aload_n 0, 1) := by decide +kernel
theorem dX11_told_162 : decode cX11_told 162 = .ok (.getfield 298, 3) := by decide +kernel
theorem dX11_told_165 : decode cX11_told 165 = .ok (.ireturn, 1) := by decide +kernel
theorem dX11_told_166 : decode cX11_told 166 = .ok (.aload_n 0, 1) := by decide +kernel
theorem dX11_told_167 : decode cX11_told 167 = .ok (.getfield 134, 3) := by decide +kernel
theorem dX11_told_170 : decode cX11_told 170 = .ok (.ifCond .ne 7, 3) := by decide +kernel
theorem dX11_told_173 : decode cX11_told 173 = .ok (.iconst 0, 1) := by decide +kernel
theorem dX11_told_174 : decode cX11_told 174 = .ok (.goto 7, 3) := by decide +kernel
theorem dX11_told_177 : decode cX11_told 177 = .ok (.aload_n 0, 1) := by decide +kernel
theorem dX11_told_178 : decode cX11_told 178 = .ok (.getfield 301, 3) := by decide +kernel
theorem dX11_told_181 : decode cX11_told 181 = .ok (.ireturn, 1) := by decide +kernel
theorem dX11_told_182 : decode cX11_told 182 = .ok (.iconst (-1), 1) := by decide +kernel
theorem dX11_told_183 : decode cX11_told 183 = .ok (.ireturn, 1) := by decide +kernel
theorem dX11_trusted_0 : decode cX11_trusted 0 = .ok (.iload_n 1, 1) := by decide +kernel
theorem dX11_trusted_1 : decode cX11_trusted 1 = .ok (.ifCond .lt 18, 3) := by decide +kernel
theorem dX11_trusted_4 : decode cX11_trusted 4 = .ok (.iload_n 1, 1) := by decide +kernel
theorem dX11_trusted_5 : decode cX11_trusted 5 = .ok (.iconst 3, 1) := by decide +kernel
theorem dX11_trusted_6 : decode cX11_trusted 6 = .ok (.if_icmp .gt 13, 3) := by decide +kernel
theorem dX11_trusted_9 : decode cX11_trusted 9 = .ok (.iload_n 2, 1) := by decide +kernel
theorem dX11_trusted_10 : decode cX11_trusted 10 = .ok (.ifCond .lt 9, 3) := by decide +kernel
theorem dX11_trusted_13 : decode cX11_trusted 13 = .ok (.iload_n 2, 1) := by decide +kernel
theorem dX11_trusted_14 : decode cX11_trusted 14 = .ok (.bipush 9, 2) := by decide +kernel
theorem dX11_trusted_16 : decode cX11_trusted 16 = .ok (.if_icmp .le 5, 3) := by decide +kernel
theorem dX11_trusted_19 : decode cX11_trusted 19 = .ok (.iconst (-1), 1) := by decide +kernel
theorem dX11_trusted_20 : decode cX11_trusted 20 = .ok (.ireturn, 1) := by decide +kernel
theorem dX11_trusted_21 : decode cX11_trusted 21 = .ok (.aload_n 0, 1) := by decide +kernel
theorem dX11_trusted_22 : decode cX11_trusted 22 = .ok (.iload_n 1, 1) := by decide +kernel
theorem dX11_trusted_23 : decode cX11_trusted 23 = .ok (.invokevirtual 322, 3) := by decide +kernel
theorem dX11_trusted_26 : decode cX11_trusted 26 = .ok (.istore 4, 2) := by decide +kernel
theorem dX11_trusted_28 : decode cX11_trusted 28 = .ok (.iload_n 2, 1) := by decide +kernel
theorem dX11_trusted_29 : decode cX11_trusted 29 = .ok (.iconst 3, 1) := by decide +kernel
theorem dX11_trusted_30 : decode cX11_trusted 30 = .ok (.if_icmp .ne 8, 3) := by decide +kernel
theorem dX11_trusted_33 : decode cX11_trusted 33 = .ok (.aload_n 0, 1) := by decide +kernel
theorem dX11_trusted_34 : decode cX11_trusted 34 = .ok (.getfield 276, 3) := by decide +kernel
theorem dX11_trusted_37 : decode cX11_trusted 37 = .ok (.ireturn, 1) := by decide +kernel
theorem dX11_trusted_38 : decode cX11_trusted 38 = .ok (.iload 4, 2) := by decide +kernel
theorem dX11_trusted_40 : decode cX11_trusted 40 = .ok (.ifCond .ne 14, 3) := by decide +kernel
theorem dX11_trusted_43 : decode cX11_trusted 43 = .ok (.iload_n 2, 1) := by decide +kernel
theorem dX11_trusted_44 : decode cX11_trusted 44 = .ok (.ifCond .ne 8, 3) := by decide +kernel
theorem dX11_trusted_47 : decode cX11_trusted 47 = .ok (.bipush (-2), 2) := by decide +kernel
theorem dX11_trusted_49 : decode cX11_trusted 49 = .ok (.goto 4, 3) := by decide +kernel
theorem dX11_trusted_52 : decode cX11_trusted 52 = .ok (.iconst (-1), 1) := by decide +kernel
theorem dX11_trusted_53 : decode cX11_trusted 53 = .ok (.ireturn, 1) := by decide +kernel
theorem dX11_trusted_54 : decode cX11_trusted 54 = .ok (.iload_n 2, 1) := by decide +kernel
theorem dX11_trusted_55 : decode cX11_trusted 55 = .ok (.iconst 3, 1) := by decide +kernel
theorem dX11_trusted_56 : decode cX11_trusted 56 = .ok (.if_icmp .ge 32, 3) := by decide +kernel
theorem dX11_trusted_59 : decode cX11_trusted 59 = .ok (.iload_n 2, 1) := by decide +kernel
theorem dX11_trusted_60 : decode cX11_trusted 60 = .ok (.ifCond .ne 10, 3) := by decide +kernel
theorem dX11_trusted_63 : decode cX11_trusted 63 = .ok (.aload_n 0, 1) := by decide +kernel
theorem dX11_trusted_64 : decode cX11_trusted 64 = .ok (.getfield 235, 3) := by decide +kernel
theorem dX11_trusted_67 : decode cX11_trusted 67 = .ok (.goto 20, 3) := by decide +kernel
theorem dX11_trusted_70 : decode cX11_trusted 70 = .ok (.iload_n 2, 1) := by decide +kernel
theorem dX11_trusted_71 : decode cX11_trusted 71 = .ok (.iconst 1, 1) := by decide +kernel
theorem dX11_trusted_72 : decode cX11_trusted 72 = .ok (.if_icmp .ne 11, 3) := by decide +kernel
theorem dX11_trusted_75 : decode cX11_trusted 75 = .ok (.aload_n 0, 1) := by decide +kernel
theorem dX11_trusted_76 : decode cX11_trusted 76 = .ok (.getfield 238, 3) := by decide +kernel
theorem dX11_trusted_79 : decode cX11_trusted 79 = .ok (.l2i, 1) := by decide +kernel
theorem dX11_trusted_80 : decode cX11_trusted 80 = .ok (.goto 7, 3) := by decide +kernel
theorem dX11_trusted_83 : decode cX11_trusted 83 = .ok (.aload_n 0, 1) := by decide +kernel
theorem dX11_trusted_84 : decode cX11_trusted 84 = .ok (.getfield 232, 3) := by decide +kernel
theorem dX11_trusted_87 : decode cX11_trusted 87 = .ok (.ireturn, 1) := by decide +kernel
theorem dX11_trusted_88 : decode cX11_trusted 88 = .ok (.iload_n 2, 1) := by decide +kernel
theorem dX11_trusted_89 : decode cX11_trusted 89 = .ok (.bipush 6, 2) := by decide +kernel
theorem dX11_trusted_91 : decode cX11_trusted 91 = .ok (.if_icmp .ge 53, 3) := by decide +kernel
theorem dX11_trusted_94 : decode cX11_trusted 94 = .ok (.iload_n 1, 1) := by decide +kernel
theorem dX11_trusted_95 : decode cX11_trusted 95 = .ok (.ifCond .ne 16, 3) := by decide +kernel
theorem dX11_trusted_98 : decode cX11_trusted 98 = .ok (.iload_n 3, 1) := by decide +kernel
theorem dX11_trusted_99 : decode cX11_trusted 99 = .ok (.ifCond .lt 12, 3) := by decide +kernel
theorem dX11_trusted_102 : decode cX11_trusted 102 = .ok (.iload_n 3, 1) := by decide +kernel
theorem dX11_trusted_103 : decode cX11_trusted 103 = .ok (.iconst 4, 1) := by decide +kernel
theorem dX11_trusted_104 : decode cX11_trusted 104 = .ok (.if_icmp .ge 7, 3) := by decide +kernel
theorem dX11_trusted_107 : decode cX11_trusted 107 = .ok (.iconst 1, 1) := by decide +kernel
theorem dX11_trusted_108 : decode cX11_trusted 108 = .ok (.goto 4, 3) := by decide +kernel
theorem dX11_trusted_111 : decode cX11_trusted 111 = .ok (.iconst 0, 1) := by decide +kernel
theorem dX11_trusted_112 : decode cX11_trusted 112 = .ok (.istore 5, 2) := by decide +kernel
theorem dX11_trusted_114 : decode cX11_trusted 114 = .ok (.iload 5, 2) := by decide +kernel
theorem dX11_trusted_116 : decode cX11_trusted 116 = .ok (.ifCond .ne 7, 3) := by decide +kernel
theorem dX11_trusted_119 : decode cX11_trusted 119 = .ok (.iconst (-1), 1) := by decide +kernel
theorem dX11_trusted_120 : decode cX11_trusted 120 = .ok (.goto 23, 3) := by decide +kernel
theorem dX11_trusted_123 : decode cX11_trusted 123 = .ok (.iload_n 2, 1) := by decide +kernel
theorem dX11_trusted_124 : decode cX11_trusted 124 = .ok (.iconst 4, 1) := by decide +kernel
theorem dX11_trusted_125 : decode cX11_trusted 125 = .ok (.if_icmp .ne 12, 3) := by decide +kernel
theorem dX11_trusted_128 : decode cX11_trusted 128 = .ok (.aload_n 0, 1) := by decide +kernel
theorem dX11_trusted_129 : decode cX11_trusted 129 = .ok (.getfield 26, 3) := by decide +kernel
theorem dX11_trusted_132 : decode cX11_trusted 132 = .ok (.iload_n 3, 1) := by decide +kernel
theorem dX11_trusted_133 : decode cX11_trusted 133 = .ok (.iaload, 1) := by decide +kernel
theorem dX11_trusted_134 : decode cX11_trusted 134 = .ok (.goto 9, 3) := by decide +kernel
theorem dX11_trusted_137 : decode cX11_trusted 137 = .ok (.aload_n 0, 1) := by decide +kernel
theorem dX11_trusted_138 : decode cX11_trusted 138 = .ok (.getfield 29, 3) := by decide +kernel
theorem dX11_trusted_141 : decode cX11_trusted 141 = .ok (.iload_n 3, 1) := by decide +kernel
theorem dX11_trusted_142 : decode cX11_trusted 142 = .ok (.iaload, 1) := by decide +kernel
theorem dX11_trusted_143 : decode cX11_trusted 143 = .ok (.ireturn, 1) := by decide +kernel
theorem dX11_trusted_144 : decode cX11_trusted 144 = .ok (.iload_n 2, 1) := by decide +kernel
theorem dX11_trusted_145 : decode cX11_trusted 145 = .ok (.bipush 6, 2) := by decide +kernel
theorem dX11_trusted_147 : decode cX11_trusted 147 = .ok (.if_icmp .ne 22, 3) := by decide +kernel
theorem dX11_trusted_150 : decode cX11_trusted 150 = .ok (.iload_n 1, 1) := by decide +kernel
theorem dX11_trusted_151 : decode cX11_trusted 151 = .ok (.iconst 1, 1) := by decide +kernel
theorem dX11_trusted_152 : decode cX11_trusted 152 = .ok (.if_icmp .eq 8, 3) := by decide +kernel
theorem dX11_trusted_155 : decode cX11_trusted 155 = .ok (.iload_n 1, 1) := by decide +kernel
theorem dX11_trusted_156 : decode cX11_trusted 156 = .ok (.iconst 2, 1) := by decide +kernel
theorem dX11_trusted_157 : decode cX11_trusted 157 = .ok (.if_icmp .ne 10, 3) := by decide +kernel
theorem dX11_trusted_160 : decode cX11_trusted 160 = .ok (.aload_n 0, 1) := by decide +kernel
theorem dX11_trusted_161 : decode cX11_trusted 161 = .ok (.getfield 247, 3) := by decide +kernel
theorem dX11_trusted_164 : decode cX11_trusted 164 = .ok (.goto 4, 3) := by decide +kernel
theorem dX11_trusted_167 : decode cX11_trusted 167 = .ok (.iconst (-1), 1) := by decide +kernel
theorem dX11_trusted_168 : decode cX11_trusted 168 = .ok (.ireturn, 1) := by decide +kernel
theorem dX11_trusted_169 : decode cX11_trusted 169 = .ok (.iload_n 1, 1) := by decide +kernel
theorem dX11_trusted_170 : decode cX11_trusted 170 = .ok (.iconst 3, 1) := by decide +kernel
theorem dX11_trusted_171 : decode cX11_trusted 171 = .ok (.if_icmp .eq 5, 3) := by decide +kernel
theorem dX11_trusted_174 : decode cX11_trusted 174 = .ok (.iconst (-1), 1) := by decide +kernel
theorem dX11_trusted_175 : decode cX11_trusted 175 = .ok (.ireturn, 1) := by decide +kernel
theorem dX11_trusted_176 : decode cX11_trusted 176 = .ok (.iload_n 2, 1) := by decide +kernel
theorem dX11_trusted_177 : decode cX11_trusted 177 = .ok (.bipush 7, 2) := by decide +kernel
theorem dX11_trusted_179 : decode cX11_trusted 179 = .ok (.if_icmp .ne 8, 3) := by decide +kernel
theorem dX11_trusted_182 : decode cX11_trusted 182 = .ok (.aload_n 0, 1) := by decide +kernel
theorem dX11_trusted_183 : decode cX11_trusted 183 = .ok (.getfield 256, 3) := by decide +kernel
theorem dX11_trusted_186 : decode cX11_trusted 186 = .ok (.ireturn, 1) := by decide +kernel
theorem dX11_trusted_187 : decode cX11_trusted 187 = .ok (.iload_n 3, 1) := by decide +kernel
theorem dX11_trusted_188 : decode cX11_trusted 188 = .ok (.ifCond .lt 11, 3) := by decide +kernel
theorem dX11_trusted_191 : decode cX11_trusted 191 = .ok (.iload_n 3, 1) := by decide +kernel
theorem dX11_trusted_192 : decode cX11_trusted 192 = .ok (.aload_n 0, 1) := by decide +kernel
theorem dX11_trusted_193 : decode cX11_trusted 193 = .ok (.getfield 256, 3) := by decide +kernel
theorem dX11_trusted_196 : decode cX11_trusted 196 = .ok (.if_icmp .lt 7, 3) := by decide +kernel
theorem dX11_trusted_199 : decode cX11_trusted 199 = .ok (.iconst (-1), 1) := by decide +kernel
theorem dX11_trusted_200 : decode cX11_trusted 200 = .ok (.goto 24, 3) := by decide +kernel
theorem dX11_trusted_203 : decode cX11_trusted 203 = .ok (.iload_n 2, 1) := by decide +kernel
theorem dX11_trusted_204 : decode cX11_trusted 204 = .ok (.bipush 8, 2) := by decide +kernel
theorem dX11_trusted_206 : decode cX11_trusted 206 = .ok (.if_icmp .ne 12, 3) := by decide +kernel
theorem dX11_trusted_209 : decode cX11_trusted 209 = .ok (.aload_n 0, 1) := by decide +kernel
theorem dX11_trusted_210 : decode cX11_trusted 210 = .ok (.getfield 32, 3) := by decide +kernel
theorem dX11_trusted_213 : decode cX11_trusted 213 = .ok (.iload_n 3, 1) := by decide +kernel
theorem dX11_trusted_214 : decode cX11_trusted 214 = .ok (.iaload, 1) := by decide +kernel
theorem dX11_trusted_215 : decode cX11_trusted 215 = .ok (.goto 9, 3) := by decide +kernel
theorem dX11_trusted_218 : decode cX11_trusted 218 = .ok (.aload_n 0, 1) := by decide +kernel
theorem dX11_trusted_219 : decode cX11_trusted 219 = .ok (.getfield 35, 3) := by decide +kernel
theorem dX11_trusted_222 : decode cX11_trusted 222 = .ok (.iload_n 3, 1) := by decide +kernel
theorem dX11_trusted_223 : decode cX11_trusted 223 = .ok (.iaload, 1) := by decide +kernel
theorem dX11_trusted_224 : decode cX11_trusted 224 = .ok (.ireturn, 1) := by decide +kernel
theorem dX11_plan_0 : decode cX11_plan 0 = .ok (.iconst 0, 1) := by decide +kernel
theorem dX11_plan_1 : decode cX11_plan 1 = .ok (.istore 4, 2) := by decide +kernel
theorem dX11_plan_3 : decode cX11_plan 3 = .ok (.iconst 0, 1) := by decide +kernel
theorem dX11_plan_4 : decode cX11_plan 4 = .ok (.istore 5, 2) := by decide +kernel
theorem dX11_plan_6 : decode cX11_plan 6 = .ok (.iload 5, 2) := by decide +kernel
theorem dX11_plan_8 : decode cX11_plan 8 = .ok (.bipush 16, 2) := by decide +kernel
theorem dX11_plan_10 : decode cX11_plan 10 = .ok (.if_icmp .ge 20, 3) := by decide +kernel
theorem dX11_plan_13 : decode cX11_plan 13 = .ok (.iload 4, 2) := by decide +kernel
theorem dX11_plan_15 : decode cX11_plan 15 = .ok (.iload_n 2, 1) := by decide +kernel
theorem dX11_plan_16 : decode cX11_plan 16 = .ok (.iload 5, 2) := by decide +kernel
theorem dX11_plan_18 : decode cX11_plan 18 = .ok (.ishr, 1) := by decide +kernel
theorem dX11_plan_19 : decode cX11_plan 19 = .ok (.iconst 1, 1) := by decide +kernel
theorem dX11_plan_20 : decode cX11_plan 20 = .ok (.iand, 1) := by decide +kernel
theorem dX11_plan_21 : decode cX11_plan 21 = .ok (.iadd, 1) := by decide +kernel
theorem dX11_plan_22 : decode cX11_plan 22 = .ok (.istore 4, 2) := by decide +kernel
theorem dX11_plan_24 : decode cX11_plan 24 = .ok (.iinc 5 1, 3) := by decide +kernel
theorem dX11_plan_27 : decode cX11_plan 27 = .ok (.goto (-21), 3) := by decide +kernel
theorem dX11_plan_30 : decode cX11_plan 30 = .ok (.iload_n 1, 1) := by decide +kernel
theorem dX11_plan_31 : decode cX11_plan 31 = .ok (.ifCond .lt 42, 3) := by decide +kernel
theorem dX11_plan_34 : decode cX11_plan 34 = .ok (.iload_n 1, 1) := by decide +kernel
theorem dX11_plan_35 : decode cX11_plan 35 = .ok (.iconst 3, 1) := by decide +kernel
theorem dX11_plan_36 : decode cX11_plan 36 = .ok (.if_icmp .gt 37, 3) := by decide +kernel
theorem dX11_plan_39 : decode cX11_plan 39 = .ok (.iload_n 2, 1) := by decide +kernel
theorem dX11_plan_40 : decode cX11_plan 40 = .ok (.ifCond .lt 33, 3) := by decide +kernel
theorem dX11_plan_43 : decode cX11_plan 43 = .ok (.iload_n 2, 1) := by decide +kernel
theorem dX11_plan_44 : decode cX11_plan 44 = .ok (.ldc_w 395, 3) := by decide +kernel
theorem dX11_plan_47 : decode cX11_plan 47 = .ok (.if_icmp .gt 26, 3) := by decide +kernel
theorem dX11_plan_50 : decode cX11_plan 50 = .ok (.iload 4, 2) := by decide +kernel
theorem dX11_plan_52 : decode cX11_plan 52 = .ok (.iconst 1, 1) := by decide +kernel
theorem dX11_plan_53 : decode cX11_plan 53 = .ok (.if_icmp .lt 20, 3) := by decide +kernel
theorem dX11_plan_56 : decode cX11_plan 56 = .ok (.iload 4, 2) := by decide +kernel
theorem dX11_plan_58 : decode cX11_plan 58 = .ok (.iconst 5, 1) := by decide +kernel
theorem dX11_plan_59 : decode cX11_plan 59 = .ok (.if_icmp .gt 14, 3) := by decide +kernel
theorem dX11_plan_62 : decode cX11_plan 62 = .ok (.iload_n 3, 1) := by decide +kernel
theorem dX11_plan_63 : decode cX11_plan 63 = .ok (.iconst 1, 1) := by decide +kernel
theorem dX11_plan_64 : decode cX11_plan 64 = .ok (.if_icmp .lt 9, 3) := by decide +kernel
theorem dX11_plan_67 : decode cX11_plan 67 = .ok (.iload_n 3, 1) := by decide +kernel
theorem dX11_plan_68 : decode cX11_plan 68 = .ok (.iload 4, 2) := by decide +kernel
theorem dX11_plan_70 : decode cX11_plan 70 = .ok (.if_icmp .le 5, 3) := by decide +kernel
theorem dX11_plan_73 : decode cX11_plan 73 = .ok (.iconst (-1), 1) := by decide +kernel
theorem dX11_plan_74 : decode cX11_plan 74 = .ok (.ireturn, 1) := by decide +kernel
theorem dX11_plan_75 : decode cX11_plan 75 = .ok (.aload_n 0, 1) := by decide +kernel
theorem dX11_plan_76 : decode cX11_plan 76 = .ok (.getfield 54, 3) := by decide +kernel
theorem dX11_plan_79 : decode cX11_plan 79 = .ok (.iload_n 1, 1) := by decide +kernel
theorem dX11_plan_80 : decode cX11_plan 80 = .ok (.iload_n 2, 1) := by decide +kernel
theorem dX11_plan_81 : decode cX11_plan 81 = .ok (.iastore, 1) := by decide +kernel
theorem dX11_plan_82 : decode cX11_plan 82 = .ok (.aload_n 0, 1) := by decide +kernel
theorem dX11_plan_83 : decode cX11_plan 83 = .ok (.getfield 57, 3) := by decide +kernel
theorem dX11_plan_86 : decode cX11_plan 86 = .ok (.iload_n 1, 1) := by decide +kernel
theorem dX11_plan_87 : decode cX11_plan 87 = .ok (.iload_n 3, 1) := by decide +kernel
theorem dX11_plan_88 : decode cX11_plan 88 = .ok (.iastore, 1) := by decide +kernel
theorem dX11_plan_89 : decode cX11_plan 89 = .ok (.iconst 1, 1) := by decide +kernel
theorem dX11_plan_90 : decode cX11_plan 90 = .ok (.ireturn, 1) := by decide +kernel
theorem dX11_image_0 : decode cX11_image 0 = .ok (.aload_n 0, 1) := by decide +kernel
theorem dX11_image_1 : decode cX11_image 1 = .ok (.getfield 396, 3) := by decide +kernel
theorem dX11_image_4 : decode cX11_image 4 = .ok (.ifCond .ne 7, 3) := by decide +kernel
theorem dX11_image_7 : decode cX11_image 7 = .ok (.iconst 0, 1) := by decide +kernel
theorem dX11_image_8 : decode cX11_image 8 = .ok (.goto 14, 3) := by decide +kernel
theorem dX11_image_11 : decode cX11_image 11 = .ok (.aload_n 0, 1) := by decide +kernel
theorem dX11_image_12 : decode cX11_image 12 = .ok (.getfield 60, 3) := by decide +kernel
theorem dX11_image_15 : decode cX11_image 15 = .ok (.aload_n 0, 1) := by decide +kernel
theorem dX11_image_16 : decode cX11_image 16 = .ok (.getfield 396, 3) := by decide +kernel
theorem dX11_image_19 : decode cX11_image 19 = .ok (.iconst 1, 1) := by decide +kernel
theorem dX11_image_20 : decode cX11_image 20 = .ok (.isub, 1) := by decide +kernel
theorem dX11_image_21 : decode cX11_image 21 = .ok (.iaload, 1) := by decide +kernel
theorem dX11_image_22 : decode cX11_image 22 = .ok (.istore 4, 2) := by decide +kernel
theorem dX11_image_24 : decode cX11_image 24 = .ok (.iload_n 1, 1) := by decide +kernel
theorem dX11_image_25 : decode cX11_image 25 = .ok (.iconst 1, 1) := by decide +kernel
theorem dX11_image_26 : decode cX11_image 26 = .ok (.if_icmp .lt 28, 3) := by decide +kernel
theorem dX11_image_29 : decode cX11_image 29 = .ok (.iload_n 1, 1) := by decide +kernel
theorem dX11_image_30 : decode cX11_image 30 = .ok (.ldc_w 395, 3) := by decide +kernel
theorem dX11_image_33 : decode cX11_image 33 = .ok (.if_icmp .gt 21, 3) := by decide +kernel
theorem dX11_image_36 : decode cX11_image 36 = .ok (.iload_n 2, 1) := by decide +kernel
theorem dX11_image_37 : decode cX11_image 37 = .ok (.iconst 1, 1) := by decide +kernel
theorem dX11_image_38 : decode cX11_image 38 = .ok (.if_icmp .lt 16, 3) := by decide +kernel
theorem dX11_image_41 : decode cX11_image 41 = .ok (.iload_n 2, 1) := by decide +kernel
theorem dX11_image_42 : decode cX11_image 42 = .ok (.sipush 1024, 3) := by decide +kernel
theorem dX11_image_45 : decode cX11_image 45 = .ok (.if_icmp .gt 9, 3) := by decide +kernel
theorem dX11_image_48 : decode cX11_image 48 = .ok (.iload_n 1, 1) := by decide +kernel
theorem dX11_image_49 : decode cX11_image 49 = .ok (.iload 4, 2) := by decide +kernel
theorem dX11_image_51 : decode cX11_image 51 = .ok (.if_icmp .gt 5, 3) := by decide +kernel
theorem dX11_image_54 : decode cX11_image 54 = .ok (.iconst (-1), 1) := by decide +kernel
theorem dX11_image_55 : decode cX11_image 55 = .ok (.ireturn, 1) := by decide +kernel
theorem dX11_image_56 : decode cX11_image 56 = .ok (.aload_n 0, 1) := by decide +kernel
theorem dX11_image_57 : decode cX11_image 57 = .ok (.getfield 396, 3) := by decide +kernel
theorem dX11_image_60 : decode cX11_image 60 = .ok (.iconst 4, 1) := by decide +kernel
theorem dX11_image_61 : decode cX11_image 61 = .ok (.if_icmp .ne 6, 3) := by decide +kernel
theorem dX11_image_64 : decode cX11_image 64 = .ok (.bipush (-5), 2) := by decide +kernel
theorem dX11_image_66 : decode cX11_image 66 = .ok (.ireturn, 1) := by decide +kernel
theorem dX11_image_67 : decode cX11_image 67 = .ok (.aload_n 0, 1) := by decide +kernel
theorem dX11_image_68 : decode cX11_image 68 = .ok (.getfield 60, 3) := by decide +kernel
theorem dX11_image_71 : decode cX11_image 71 = .ok (.aload_n 0, 1) := by decide +kernel
theorem dX11_image_72 : decode cX11_image 72 = .ok (.getfield 396, 3) := by decide +kernel
theorem dX11_image_75 : decode cX11_image 75 = .ok (.iload_n 1, 1) := by decide +kernel
theorem dX11_image_76 : decode cX11_image 76 = .ok (.iastore, 1) := by decide +kernel
theorem dX11_image_77 : decode cX11_image 77 = .ok (.aload_n 0, 1) := by decide +kernel
theorem dX11_image_78 : decode cX11_image 78 = .ok (.getfield 63, 3) := by decide +kernel
theorem dX11_image_81 : decode cX11_image 81 = .ok (.aload_n 0, 1) := by decide +kernel
theorem dX11_image_82 : decode cX11_image 82 = .ok (.getfield 396, 3) := by decide +kernel
theorem dX11_image_85 : decode cX11_image 85 = .ok (.iload_n 2, 1) := by decide +kernel
theorem dX11_image_86 : decode cX11_image 86 = .ok (.iastore, 1) := by decide +kernel
theorem dX11_image_87 : decode cX11_image 87 = .ok (.aload_n 0, 1) := by decide +kernel
theorem dX11_image_88 : decode cX11_image 88 = .ok (.getfield 66, 3) := by decide +kernel
theorem dX11_image_91 : decode cX11_image 91 = .ok (.aload_n 0, 1) := by decide +kernel
theorem dX11_image_92 : decode cX11_image 92 = .ok (.getfield 396, 3) := by decide +kernel
theorem dX11_image_95 : decode cX11_image 95 = .ok (.iload_n 3, 1) := by decide +kernel
theorem dX11_image_96 : decode cX11_image 96 = .ok (.iastore, 1) := by decide +kernel
theorem dX11_image_97 : decode cX11_image 97 = .ok (.aload_n 0, 1) := by decide +kernel
theorem dX11_image_98 : decode cX11_image 98 = .ok (.dup, 1) := by decide +kernel
theorem dX11_image_99 : decode cX11_image 99 = .ok (.getfield 396, 3) := by decide +kernel
theorem dX11_image_102 : decode cX11_image 102 = .ok (.iconst 1, 1) := by decide +kernel
theorem dX11_image_103 : decode cX11_image 103 = .ok (.iadd, 1) := by decide +kernel
theorem dX11_image_104 : decode cX11_image 104 = .ok (.putfield 396, 3) := by decide +kernel
theorem dX11_image_107 : decode cX11_image 107 = .ok (.aload_n 0, 1) := by decide +kernel
theorem dX11_image_108 : decode cX11_image 108 = .ok (.getfield 396, 3) := by decide +kernel
theorem dX11_image_111 : decode cX11_image 111 = .ok (.ireturn, 1) := by decide +kernel
theorem dX11_clear_0 : decode cX11_clear 0 = .ok (.aload_n 0, 1) := by decide +kernel
theorem dX11_clear_1 : decode cX11_clear 1 = .ok (.getfield 396, 3) := by decide +kernel
theorem dX11_clear_4 : decode cX11_clear 4 = .ok (.istore_n 1, 1) := by decide +kernel
theorem dX11_clear_5 : decode cX11_clear 5 = .ok (.aload_n 0, 1) := by decide +kernel
theorem dX11_clear_6 : decode cX11_clear 6 = .ok (.iconst 0, 1) := by decide +kernel
theorem dX11_clear_7 : decode cX11_clear 7 = .ok (.putfield 396, 3) := by decide +kernel
theorem dX11_clear_10 : decode cX11_clear 10 = .ok (.iload_n 1, 1) := by decide +kernel
theorem dX11_clear_11 : decode cX11_clear 11 = .ok (.ireturn, 1) := by decide +kernel
theorem dX11_imageByte_0 : decode cX11_imageByte 0 = .ok (.aload_n 0, 1) := by decide +kernel
theorem dX11_imageByte_1 : decode cX11_imageByte 1 = .ok (.getfield 66, 3) := by decide +kernel
theorem dX11_imageByte_4 : decode cX11_imageByte 4 = .ok (.iload_n 1, 1) := by decide +kernel
theorem dX11_imageByte_5 : decode cX11_imageByte 5 = .ok (.iaload, 1) := by decide +kernel
theorem dX11_imageByte_6 : decode cX11_imageByte 6 = .ok (.bipush 7, 2) := by decide +kernel
theorem dX11_imageByte_8 : decode cX11_imageByte 8 = .ok (.iload_n 2, 1) := by decide +kernel
theorem dX11_imageByte_9 : decode cX11_imageByte 9 = .ok (.imul, 1) := by decide +kernel
theorem dX11_imageByte_10 : decode cX11_imageByte 10 = .ok (.iadd, 1) := by decide +kernel
theorem dX11_imageByte_11 : decode cX11_imageByte 11 = .ok (.iload_n 2, 1) := by decide +kernel
theorem dX11_imageByte_12 : decode cX11_imageByte 12 = .ok (.bipush 6, 2) := by decide +kernel
theorem dX11_imageByte_14 : decode cX11_imageByte 14 = .ok (.ishr, 1) := by decide +kernel
theorem dX11_imageByte_15 : decode cX11_imageByte 15 = .ok (.aload_n 0, 1) := by decide +kernel
theorem dX11_imageByte_16 : decode cX11_imageByte 16 = .ok (.getfield 66, 3) := by decide +kernel
theorem dX11_imageByte_19 : decode cX11_imageByte 19 = .ok (.iload_n 1, 1) := by decide +kernel
theorem dX11_imageByte_20 : decode cX11_imageByte 20 = .ok (.iaload, 1) := by decide +kernel
theorem dX11_imageByte_21 : decode cX11_imageByte 21 = .ok (.imul, 1) := by decide +kernel
theorem dX11_imageByte_22 : decode cX11_imageByte 22 = .ok (.iadd, 1) := by decide +kernel
theorem dX11_imageByte_23 : decode cX11_imageByte 23 = .ok (.sipush 255, 3) := by decide +kernel
theorem dX11_imageByte_26 : decode cX11_imageByte 26 = .ok (.iand, 1) := by decide +kernel
theorem dX11_imageByte_27 : decode cX11_imageByte 27 = .ok (.ireturn, 1) := by decide +kernel
theorem dX11_draftPut_0 : decode cX11_draftPut 0 = .ok (.iload_n 3, 1) := by decide +kernel
theorem dX11_draftPut_1 : decode cX11_draftPut 1 = .ok (.iconst 1, 1) := by decide +kernel
theorem dX11_draftPut_2 : decode cX11_draftPut 2 = .ok (.isub, 1) := by decide +kernel
theorem dX11_draftPut_3 : decode cX11_draftPut 3 = .ok (.istore 4, 2) := by decide +kernel
theorem dX11_draftPut_5 : decode cX11_draftPut 5 = .ok (.iload 4, 2) := by decide +kernel
theorem dX11_draftPut_7 : decode cX11_draftPut 7 = .ok (.ifCond .lt 40, 3) := by decide +kernel
theorem dX11_draftPut_10 : decode cX11_draftPut 10 = .ok (.aload_n 0, 1) := by decide +kernel
theorem dX11_draftPut_11 : decode cX11_draftPut 11 = .ok (.getfield 69, 3) := by decide +kernel
theorem dX11_draftPut_14 : decode cX11_draftPut 14 = .ok (.aload_n 0, 1) := by decide +kernel
theorem dX11_draftPut_15 : decode cX11_draftPut 15 = .ok (.getfield 399, 3) := by decide +kernel
theorem dX11_draftPut_18 : decode cX11_draftPut 18 = .ok (.lload_n 1, 1) := by decide +kernel
theorem dX11_draftPut_19 : decode cX11_draftPut 19 = .ok (.bipush 8, 2) := by decide +kernel
theorem dX11_draftPut_21 : decode cX11_draftPut 21 = .ok (.iload 4, 2) := by decide +kernel
theorem dX11_draftPut_23 : decode cX11_draftPut 23 = .ok (.imul, 1) := by decide +kernel
theorem dX11_draftPut_24 : decode cX11_draftPut 24 = .ok (.lshr, 1) := by decide +kernel
theorem dX11_draftPut_25 : decode cX11_draftPut 25 = .ok (.l2i, 1) := by decide +kernel
theorem dX11_draftPut_26 : decode cX11_draftPut 26 = .ok (.sipush 255, 3) := by decide +kernel
theorem dX11_draftPut_29 : decode cX11_draftPut 29 = .ok (.iand, 1) := by decide +kernel
theorem dX11_draftPut_30 : decode cX11_draftPut 30 = .ok (.iastore, 1) := by decide +kernel
theorem dX11_draftPut_31 : decode cX11_draftPut 31 = .ok (.aload_n 0, 1) := by decide +kernel
theorem dX11_draftPut_32 : decode cX11_draftPut 32 = .ok (.dup, 1) := by decide +kernel
theorem dX11_draftPut_33 : decode cX11_draftPut 33 = .ok (.getfield 399, 3) := by decide +kernel
theorem dX11_draftPut_36 : decode cX11_draftPut 36 = .ok (.iconst 1, 1) := by decide +kernel
theorem dX11_draftPut_37 : decode cX11_draftPut 37 = .ok (.iadd, 1) := by decide +kernel
theorem dX11_draftPut_38 : decode cX11_draftPut 38 = .ok (.putfield 399, 3) := by decide +kernel
theorem dX11_draftPut_41 : decode cX11_draftPut 41 = .ok (.iinc 4 (-1), 3) := by decide +kernel
theorem dX11_draftPut_44 : decode cX11_draftPut 44 = .ok (.goto (-39), 3) := by decide +kernel
theorem dX11_draftPut_47 : decode cX11_draftPut 47 = .ok (.return_, 1) := by decide +kernel
theorem dX11_draftKeysOf_0 : decode cX11_draftKeysOf 0 = .ok (.iconst 0, 1) := by decide +kernel
theorem dX11_draftKeysOf_1 : decode cX11_draftKeysOf 1 = .ok (.istore_n 2, 1) := by decide +kernel
theorem dX11_draftKeysOf_2 : decode cX11_draftKeysOf 2 = .ok (.iload_n 2, 1) := by decide +kernel
theorem dX11_draftKeysOf_3 : decode cX11_draftKeysOf 3 = .ok (.bipush 16, 2) := by decide +kernel
theorem dX11_draftKeysOf_5 : decode cX11_draftKeysOf 5 = .ok (.if_icmp .ge 25, 3) := by decide +kernel
theorem dX11_draftKeysOf_8 : decode cX11_draftKeysOf 8 = .ok (.iload_n 1, 1) := by decide +kernel
theorem dX11_draftKeysOf_9 : decode cX11_draftKeysOf 9 = .ok (.iload_n 2, 1) := by decide +kernel
theorem dX11_draftKeysOf_10 : decode cX11_draftKeysOf 10 = .ok (.ishr, 1) := by decide +kernel
theorem dX11_draftKeysOf_11 : decode cX11_draftKeysOf 11 = .ok (.iconst 1, 1) := by decide +kernel
theorem dX11_draftKeysOf_12 : decode cX11_draftKeysOf 12 = .ok (.iand, 1) := by decide +kernel
theorem dX11_draftKeysOf_13 : decode cX11_draftKeysOf 13 = .ok (.iconst 1, 1) := by decide +kernel
theorem dX11_draftKeysOf_14 : decode cX11_draftKeysOf 14 = .ok (.if_icmp .ne 10, 3) := by decide +kernel
theorem dX11_draftKeysOf_17 : decode cX11_draftKeysOf 17 = .ok (.aload_n 0, 1) := by decide +kernel
theorem dX11_draftKeysOf_18 : decode cX11_draftKeysOf 18 = .ok (.iload_n 2, 1) := by decide +kernel
theorem dX11_draftKeysOf_19 : decode cX11_draftKeysOf 19 = .ok (.i2l, 1) := by decide +kernel
theorem dX11_draftKeysOf_20 : decode cX11_draftKeysOf 20 = .ok (.iconst 1, 1) := by decide +kernel
theorem dX11_draftKeysOf_21 : decode cX11_draftKeysOf 21 = .ok (.invokevirtual 402, 3) := by decide +kernel
theorem dX11_draftKeysOf_24 : decode cX11_draftKeysOf 24 = .ok (.iinc 2 1, 3) := by decide +kernel
theorem dX11_draftKeysOf_27 : decode cX11_draftKeysOf 27 = .ok (.goto (-25), 3) := by decide +kernel
theorem dX11_draftKeysOf_30 : decode cX11_draftKeysOf 30 = .ok (.return_, 1) := by decide +kernel
theorem dX11_many_0 : decode cX11_many 0 = .ok (.iconst 0, 1) := by decide +kernel
theorem dX11_many_1 : decode cX11_many 1 = .ok (.istore_n 1, 1) := by decide +kernel
theorem dX11_many_2 : decode cX11_many 2 = .ok (.iconst 0, 1) := by decide +kernel
theorem dX11_many_3 : decode cX11_many 3 = .ok (.istore_n 2, 1) := by decide +kernel
theorem dX11_many_4 : decode cX11_many 4 = .ok (.iload_n 2, 1) := by decide +kernel
theorem dX11_many_5 : decode cX11_many 5 = .ok (.bipush 16, 2) := by decide +kernel
theorem dX11_many_7 : decode cX11_many 7 = .ok (.if_icmp .ge 17, 3) := by decide +kernel
theorem dX11_many_10 : decode cX11_many 10 = .ok (.iload_n 1, 1) := by decide +kernel
theorem dX11_many_11 : decode cX11_many 11 = .ok (.iload_n 0, 1) := by decide +kernel
theorem dX11_many_12 : decode cX11_many 12 = .ok (.iload_n 2, 1) := by decide +kernel
theorem dX11_many_13 : decode cX11_many 13 = .ok (.ishr, 1) := by decide +kernel
theorem dX11_many_14 : decode cX11_many 14 = .ok (.iconst 1, 1) := by decide +kernel
theorem dX11_many_15 : decode cX11_many 15 = .ok (.iand, 1) := by decide +kernel
theorem dX11_many_16 : decode cX11_many 16 = .ok (.iadd, 1) := by decide +kernel
theorem dX11_many_17 : decode cX11_many 17 = .ok (.istore_n 1, 1) := by decide +kernel
theorem dX11_many_18 : decode cX11_many 18 = .ok (.iinc 2 1, 3) := by decide +kernel
theorem dX11_many_21 : decode cX11_many 21 = .ok (.goto (-17), 3) := by decide +kernel
theorem dX11_many_24 : decode cX11_many 24 = .ok (.iload_n 1, 1) := by decide +kernel
theorem dX11_many_25 : decode cX11_many 25 = .ok (.ireturn, 1) := by decide +kernel
theorem dX11_draftDigest_0 : decode cX11_draftDigest 0 = .ok (.aload_n 0, 1) := by decide +kernel
theorem dX11_draftDigest_1 : decode cX11_draftDigest 1 = .ok (.invokevirtual 113, 3) := by decide +kernel
theorem dX11_draftDigest_4 : decode cX11_draftDigest 4 = .ok (.iconst 0, 1) := by decide +kernel
theorem dX11_draftDigest_5 : decode cX11_draftDigest 5 = .ok (.istore_n 1, 1) := by decide +kernel
theorem dX11_draftDigest_6 : decode cX11_draftDigest 6 = .ok (.iload_n 1, 1) := by decide +kernel
theorem dX11_draftDigest_7 : decode cX11_draftDigest 7 = .ok (.aload_n 0, 1) := by decide +kernel
theorem dX11_draftDigest_8 : decode cX11_draftDigest 8 = .ok (.getfield 399, 3) := by decide +kernel
theorem dX11_draftDigest_11 : decode cX11_draftDigest 11 = .ok (.if_icmp .ge 19, 3) := by decide +kernel
theorem dX11_draftDigest_14 : decode cX11_draftDigest 14 = .ok (.aload_n 0, 1) := by decide +kernel
theorem dX11_draftDigest_15 : decode cX11_draftDigest 15 = .ok (.aload_n 0, 1) := by decide +kernel
theorem dX11_draftDigest_16 : decode cX11_draftDigest 16 = .ok (.getfield 69, 3) := by decide +kernel
theorem dX11_draftDigest_19 : decode cX11_draftDigest 19 = .ok (.iload_n 1, 1) := by decide +kernel
theorem dX11_draftDigest_20 : decode cX11_draftDigest 20 = .ok (.iaload, 1) := by decide +kernel
theorem dX11_draftDigest_21 : decode cX11_draftDigest 21 = .ok (.invokevirtual 116, 3) := by decide +kernel
theorem dX11_draftDigest_24 : decode cX11_draftDigest 24 = .ok (.iinc 1 1, 3) := by decide +kernel
theorem dX11_draftDigest_27 : decode cX11_draftDigest 27 = .ok (.goto (-21), 3) := by decide +kernel
theorem dX11_draftDigest_30 : decode cX11_draftDigest 30 = .ok (.aload_n 0, 1) := by decide +kernel
theorem dX11_draftDigest_31 : decode cX11_draftDigest 31 = .ok (.getfield 108, 3) := by decide +kernel
theorem dX11_draftDigest_34 : decode cX11_draftDigest 34 = .ok (.lreturn, 1) := by decide +kernel
theorem dX11_draft_0 : decode cX11_draft 0 = .ok (.iload_n 1, 1) := by decide +kernel
theorem dX11_draft_1 : decode cX11_draft 1 = .ok (.ifCond .lt 24, 3) := by decide +kernel
theorem dX11_draft_4 : decode cX11_draft 4 = .ok (.iload_n 1, 1) := by decide +kernel
theorem dX11_draft_5 : decode cX11_draft 5 = .ok (.iconst 3, 1) := by decide +kernel
theorem dX11_draft_6 : decode cX11_draft 6 = .ok (.if_icmp .gt 19, 3) := by decide +kernel
theorem dX11_draft_9 : decode cX11_draft 9 = .ok (.iload_n 2, 1) := by decide +kernel
theorem dX11_draft_10 : decode cX11_draft 10 = .ok (.iconst 1, 1) := by decide +kernel
theorem dX11_draft_11 : decode cX11_draft 11 = .ok (.if_icmp .lt 14, 3) := by decide +kernel
theorem dX11_draft_14 : decode cX11_draft 14 = .ok (.iload_n 2, 1) := by decide +kernel
theorem dX11_draft_15 : decode cX11_draft 15 = .ok (.ldc_w 395, 3) := by decide +kernel
theorem dX11_draft_18 : decode cX11_draft 18 = .ok (.if_icmp .gt 7, 3) := by decide +kernel
theorem dX11_draft_21 : decode cX11_draft 21 = .ok (.iload_n 3, 1) := by decide +kernel
theorem dX11_draft_22 : decode cX11_draft 22 = .ok (.ifCond .ge 5, 3) := by decide +kernel
theorem dX11_draft_25 : decode cX11_draft 25 = .ok (.iconst (-1), 1) := by decide +kernel
theorem dX11_draft_26 : decode cX11_draft 26 = .ok (.ireturn, 1) := by decide +kernel
theorem dX11_draft_27 : decode cX11_draft 27 = .ok (.aload_n 0, 1) := by decide +kernel
theorem dX11_draft_28 : decode cX11_draft 28 = .ok (.iload_n 1, 1) := by decide +kernel
theorem dX11_draft_29 : decode cX11_draft 29 = .ok (.putfield 72, 3) := by decide +kernel
theorem dX11_draft_32 : decode cX11_draft 32 = .ok (.aload_n 0, 1) := by decide +kernel
theorem dX11_draft_33 : decode cX11_draft 33 = .ok (.iconst 0, 1) := by decide +kernel
theorem dX11_draft_34 : decode cX11_draft 34 = .ok (.putfield 399, 3) := by decide +kernel
theorem dX11_draft_37 : decode cX11_draft 37 = .ok (.aload_n 0, 1) := by decide +kernel
theorem dX11_draft_38 : decode cX11_draft 38 = .ok (.iconst 0, 1) := by decide +kernel
theorem dX11_draft_39 : decode cX11_draft 39 = .ok (.putfield 405, 3) := by decide +kernel
theorem dX11_draft_42 : decode cX11_draft 42 = .ok (.aload_n 0, 1) := by decide +kernel
theorem dX11_draft_43 : decode cX11_draft 43 = .ok (.iload_n 2, 1) := by decide +kernel
theorem dX11_draft_44 : decode cX11_draft 44 = .ok (.i2l, 1) := by decide +kernel
theorem dX11_draft_45 : decode cX11_draft 45 = .ok (.iconst 2, 1) := by decide +kernel
theorem dX11_draft_46 : decode cX11_draft 46 = .ok (.invokevirtual 402, 3) := by decide +kernel
theorem dX11_draft_49 : decode cX11_draft 49 = .ok (.aload_n 0, 1) := by decide +kernel
theorem dX11_draft_50 : decode cX11_draft 50 = .ok (.iload_n 3, 1) := by decide +kernel
theorem dX11_draft_51 : decode cX11_draft 51 = .ok (.i2l, 1) := by decide +kernel
theorem dX11_draft_52 : decode cX11_draft 52 = .ok (.iconst 4, 1) := by decide +kernel
theorem dX11_draft_53 : decode cX11_draft 53 = .ok (.invokevirtual 402, 3) := by decide +kernel
theorem dX11_draft_56 : decode cX11_draft 56 = .ok (.iload_n 1, 1) := by decide +kernel
theorem dX11_draft_57 : decode cX11_draft 57 = .ok (.ifCond .ne 61, 3) := by decide +kernel
theorem dX11_draft_60 : decode cX11_draft 60 = .ok (.iconst 0, 1) := by decide +kernel
theorem dX11_draft_61 : decode cX11_draft 61 = .ok (.istore 4, 2) := by decide +kernel
theorem dX11_draft_63 : decode cX11_draft 63 = .ok (.iload 4, 2) := by decide +kernel
theorem dX11_draft_65 : decode cX11_draft 65 = .ok (.iconst 4, 1) := by decide +kernel
theorem dX11_draft_66 : decode cX11_draft 66 = .ok (.if_icmp .ge 49, 3) := by decide +kernel
theorem dX11_draft_69 : decode cX11_draft 69 = .ok (.aload_n 0, 1) := by decide +kernel
theorem dX11_draft_70 : decode cX11_draft 70 = .ok (.aload_n 0, 1) := by decide +kernel
theorem dX11_draft_71 : decode cX11_draft 71 = .ok (.getfield 57, 3) := by decide +kernel
theorem dX11_draft_74 : decode cX11_draft 74 = .ok (.iload 4, 2) := by decide +kernel
theorem dX11_draft_76 : decode cX11_draft 76 = .ok (.iaload, 1) := by decide +kernel
theorem dX11_draft_77 : decode cX11_draft 77 = .ok (.i2l, 1) := by decide +kernel
theorem dX11_draft_78 : decode cX11_draft 78 = .ok (.iconst 1, 1) := by decide +kernel
theorem dX11_draft_79 : decode cX11_draft 79 = .ok (.invokevirtual 402, 3) := by decide +kernel
theorem dX11_draft_82 : decode cX11_draft 82 = .ok (.aload_n 0, 1) := by decide +kernel
theorem dX11_draft_83 : decode cX11_draft 83 = .ok (.aload_n 0, 1) := by decide +kernel
theorem dX11_draft_84 : decode cX11_draft 84 = .ok (.getfield 54, 3) := by decide +kernel
theorem dX11_draft_87 : decode cX11_draft 87 = .ok (.iload 4, 2) := by decide +kernel
theorem dX11_draft_89 : decode cX11_draft 89 = .ok (.iaload, 1) := by decide +kernel
theorem dX11_draft_90 : decode cX11_draft 90 = .ok (.invokestatic 408, 3) := by decide +kernel
theorem dX11_draft_93 : decode cX11_draft 93 = .ok (.i2l, 1) := by decide +kernel
theorem dX11_draft_94 : decode cX11_draft 94 = .ok (.iconst 1, 1) := by decide +kernel
theorem dX11_draft_95 : decode cX11_draft 95 = .ok (.invokevirtual 402, 3) := by decide +kernel
theorem dX11_draft_98 : decode cX11_draft 98 = .ok (.aload_n 0, 1) := by decide +kernel
theorem dX11_draft_99 : decode cX11_draft 99 = .ok (.aload_n 0, 1) := by decide +kernel
theorem dX11_draft_100 : decode cX11_draft 100 = .ok (.getfield 54, 3) := by decide +kernel
theorem dX11_draft_103 : decode cX11_draft 103 = .ok (.iload 4, 2) := by decide +kernel
theorem dX11_draft_105 : decode cX11_draft 105 = .ok (.iaload, 1) := by decide +kernel
theorem dX11_draft_106 : decode cX11_draft 106 = .ok (.invokevirtual 411, 3) := by decide +kernel
theorem dX11_draft_109 : decode cX11_draft 109 = .ok (.iinc 4 1, 3) := by decide +kernel
theorem dX11_draft_112 : decode cX11_draft 112 = .ok (.goto (-49), 3) := by decide +kernel
theorem dX11_draft_115 : decode cX11_draft 115 = .ok (.goto 144, 3) := by decide +kernel
theorem dX11_draft_118 : decode cX11_draft 118 = .ok (.iload_n 1, 1) := by decide +kernel
theorem dX11_draft_119 : decode cX11_draft 119 = .ok (.iconst 3, 1) := by decide +kernel
theorem dX11_draft_120 : decode cX11_draft 120 = .ok (.if_icmp .ne 111, 3) := by decide +kernel
theorem dX11_draft_123 : decode cX11_draft 123 = .ok (.aload_n 0, 1) := by decide +kernel
theorem dX11_draft_124 : decode cX11_draft 124 = .ok (.aload_n 0, 1) := by decide +kernel
theorem dX11_draft_125 : decode cX11_draft 125 = .ok (.getfield 396, 3) := by decide +kernel
theorem dX11_draft_128 : decode cX11_draft 128 = .ok (.i2l, 1) := by decide +kernel
theorem dX11_draft_129 : decode cX11_draft 129 = .ok (.iconst 1, 1) := by decide +kernel
theorem dX11_draft_130 : decode cX11_draft 130 = .ok (.invokevirtual 402, 3) := by decide +kernel
theorem dX11_draft_133 : decode cX11_draft 133 = .ok (.iconst 0, 1) := by decide +kernel
theorem dX11_draft_134 : decode cX11_draft 134 = .ok (.istore 4, 2) := by decide +kernel
theorem dX11_draft_136 : decode cX11_draft 136 = .ok (.iload 4, 2) := by decide +kernel
theorem dX11_draft_138 : decode cX11_draft 138 = .ok (.aload_n 0, 1) := by decide +kernel
theorem dX11_draft_139 : decode cX11_draft 139 = .ok (.getfield 396, 3) := by decide +kernel
theorem dX11_draft_142 : decode cX11_draft 142 = .ok (.if_icmp .ge 86, 3) := by decide +kernel
theorem dX11_draft_145 : decode cX11_draft 145 = .ok (.aload_n 0, 1) := by decide +kernel
theorem dX11_draft_146 : decode cX11_draft 146 = .ok (.invokevirtual 113, 3) := by decide +kernel
theorem dX11_draft_149 : decode cX11_draft 149 = .ok (.iconst 0, 1) := by decide +kernel
theorem dX11_draft_150 : decode cX11_draft 150 = .ok (.istore 5, 2) := by decide +kernel
theorem dX11_draft_152 : decode cX11_draft 152 = .ok (.iload 5, 2) := by decide +kernel
theorem dX11_draft_154 : decode cX11_draft 154 = .ok (.aload_n 0, 1) := by decide +kernel
theorem dX11_draft_155 : decode cX11_draft 155 = .ok (.getfield 63, 3) := by decide +kernel
theorem dX11_draft_158 : decode cX11_draft 158 = .ok (.iload 4, 2) := by decide +kernel
theorem dX11_draft_160 : decode cX11_draft 160 = .ok (.iaload, 1) := by decide +kernel
theorem dX11_draft_161 : decode cX11_draft 161 = .ok (.if_icmp .ge 21, 3) := by decide +kernel
theorem dX11_draft_164 : decode cX11_draft 164 = .ok (.aload_n 0, 1) := by decide +kernel
theorem dX11_draft_165 : decode cX11_draft 165 = .ok (.aload_n 0, 1) := by decide +kernel
theorem dX11_draft_166 : decode cX11_draft 166 = .ok (.iload 4, 2) := by decide +kernel
theorem dX11_draft_168 : decode cX11_draft 168 = .ok (.iload 5, 2) := by decide +kernel
theorem dX11_draft_170 : decode cX11_draft 170 = .ok (.invokevirtual 414, 3) := by decide +kernel
theorem dX11_draft_173 : decode cX11_draft 173 = .ok (.invokevirtual 116, 3) := by decide +kernel
theorem dX11_draft_176 : decode cX11_draft 176 = .ok (.iinc 5 1, 3) := by decide +kernel
theorem dX11_draft_179 : decode cX11_draft 179 = .ok (.goto (-27), 3) := by decide +kernel
theorem dX11_draft_182 : decode cX11_draft 182 = .ok (.aload_n 0, 1) := by decide +kernel
theorem dX11_draft_183 : decode cX11_draft 183 = .ok (.getfield 108, 3) := by decide +kernel
theorem dX11_draft_186 : decode cX11_draft 186 = .ok (.lstore 5, 2) := by decide +kernel
theorem dX11_draft_188 : decode cX11_draft 188 = .ok (.aload_n 0, 1) := by decide +kernel
theorem dX11_draft_189 : decode cX11_draft 189 = .ok (.aload_n 0, 1) := by decide +kernel
theorem dX11_draft_190 : decode cX11_draft 190 = .ok (.getfield 60, 3) := by decide +kernel
theorem dX11_draft_193 : decode cX11_draft 193 = .ok (.iload 4, 2) := by decide +kernel
theorem dX11_draft_195 : decode cX11_draft 195 = .ok (.iaload, 1) := by decide +kernel
theorem dX11_draft_196 : decode cX11_draft 196 = .ok (.i2l, 1) := by decide +kernel
theorem dX11_draft_197 : decode cX11_draft 197 = .ok (.iconst 2, 1) := by decide +kernel
theorem dX11_draft_198 : decode cX11_draft 198 = .ok (.invokevirtual 402, 3) := by decide +kernel
theorem dX11_draft_201 : decode cX11_draft 201 = .ok (.aload_n 0, 1) := by decide +kernel
theorem dX11_draft_202 : decode cX11_draft 202 = .ok (.aload_n 0, 1) := by decide +kernel
theorem dX11_draft_203 : decode cX11_draft 203 = .ok (.getfield 63, 3) := by decide +kernel
theorem dX11_draft_206 : decode cX11_draft 206 = .ok (.iload 4, 2) := by decide +kernel
theorem dX11_draft_208 : decode cX11_draft 208 = .ok (.iaload, 1) := by decide +kernel
theorem dX11_draft_209 : decode cX11_draft 209 = .ok (.i2l, 1) := by decide +kernel
theorem dX11_draft_210 : decode cX11_draft 210 = .ok (.iconst 2, 1) := by decide +kernel
theorem dX11_draft_211 : decode cX11_draft 211 = .ok (.invokevirtual 402, 3) := by decide +kernel
theorem dX11_draft_214 : decode cX11_draft 214 = .ok (.aload_n 0, 1) := by decide +kernel
theorem dX11_draft_215 : decode cX11_draft 215 = .ok (.lload 5, 2) := by decide +kernel
theorem dX11_draft_217 : decode cX11_draft 217 = .ok (.bipush 8, 2) := by decide +kernel
theorem dX11_draft_219 : decode cX11_draft 219 = .ok (.invokevirtual 402, 3) := by decide +kernel
theorem dX11_draft_222 : decode cX11_draft 222 = .ok (.iinc 4 1, 3) := by decide +kernel
theorem dX11_draft_225 : decode cX11_draft 225 = .ok (.goto (-89), 3) := by decide +kernel
theorem dX11_draft_228 : decode cX11_draft 228 = .ok (.goto 31, 3) := by decide +kernel
theorem dX11_draft_231 : decode cX11_draft 231 = .ok (.aload_n 0, 1) := by decide +kernel
theorem dX11_draft_232 : decode cX11_draft 232 = .ok (.aload_n 0, 1) := by decide +kernel
theorem dX11_draft_233 : decode cX11_draft 233 = .ok (.getfield 75, 3) := by decide +kernel
theorem dX11_draft_236 : decode cX11_draft 236 = .ok (.iload_n 1, 1) := by decide +kernel
theorem dX11_draft_237 : decode cX11_draft 237 = .ok (.iconst 1, 1) := by decide +kernel
theorem dX11_draft_238 : decode cX11_draft 238 = .ok (.iadd, 1) := by decide +kernel
theorem dX11_draft_239 : decode cX11_draft 239 = .ok (.iaload, 1) := by decide +kernel
theorem dX11_draft_240 : decode cX11_draft 240 = .ok (.i2l, 1) := by decide +kernel
theorem dX11_draft_241 : decode cX11_draft 241 = .ok (.iconst 2, 1) := by decide +kernel
theorem dX11_draft_242 : decode cX11_draft 242 = .ok (.invokevirtual 402, 3) := by decide +kernel
theorem dX11_draft_245 : decode cX11_draft 245 = .ok (.aload_n 0, 1) := by decide +kernel
theorem dX11_draft_246 : decode cX11_draft 246 = .ok (.aload_n 0, 1) := by decide +kernel
theorem dX11_draft_247 : decode cX11_draft 247 = .ok (.getfield 78, 3) := by decide +kernel
theorem dX11_draft_250 : decode cX11_draft 250 = .ok (.iload_n 1, 1) := by decide +kernel
theorem dX11_draft_251 : decode cX11_draft 251 = .ok (.iconst 1, 1) := by decide +kernel
theorem dX11_draft_252 : decode cX11_draft 252 = .ok (.iadd, 1) := by decide +kernel
theorem dX11_draft_253 : decode cX11_draft 253 = .ok (.laload, 1) := by decide +kernel
theorem dX11_draft_254 : decode cX11_draft 254 = .ok (.bipush 8, 2) := by decide +kernel
theorem dX11_draft_256 : decode cX11_draft 256 = .ok (.invokevirtual 402, 3) := by decide +kernel
theorem dX11_draft_259 : decode cX11_draft 259 = .ok (.iload_n 1, 1) := by decide +kernel
theorem dX11_draft_260 : decode cX11_draft 260 = .ok (.iconst 2, 1) := by decide +kernel
theorem dX11_draft_261 : decode cX11_draft 261 = .ok (.if_icmp .lt 20, 3) := by decide +kernel
theorem dX11_draft_264 : decode cX11_draft 264 = .ok (.aload_n 0, 1) := by decide +kernel
theorem dX11_draft_265 : decode cX11_draft 265 = .ok (.getfield 75, 3) := by decide +kernel
theorem dX11_draft_268 : decode cX11_draft 268 = .ok (.iload_n 1, 1) := by decide +kernel
theorem dX11_draft_269 : decode cX11_draft 269 = .ok (.iload_n 2, 1) := by decide +kernel
theorem dX11_draft_270 : decode cX11_draft 270 = .ok (.iastore, 1) := by decide +kernel
theorem dX11_draft_271 : decode cX11_draft 271 = .ok (.aload_n 0, 1) := by decide +kernel
theorem dX11_draft_272 : decode cX11_draft 272 = .ok (.getfield 78, 3) := by decide +kernel
theorem dX11_draft_275 : decode cX11_draft 275 = .ok (.iload_n 1, 1) := by decide +kernel
theorem dX11_draft_276 : decode cX11_draft 276 = .ok (.aload_n 0, 1) := by decide +kernel
theorem dX11_draft_277 : decode cX11_draft 277 = .ok (.invokevirtual 417, 3) := by decide +kernel
theorem dX11_draft_280 : decode cX11_draft 280 = .ok (.lastore, 1) := by decide +kernel
theorem dX11_draft_281 : decode cX11_draft 281 = .ok (.aload_n 0, 1) := by decide +kernel
theorem dX11_draft_282 : decode cX11_draft 282 = .ok (.getfield 399, 3) := by decide +kernel
theorem dX11_draft_285 : decode cX11_draft 285 = .ok (.ireturn, 1) := by decide +kernel
theorem dX11_sign_0 : decode cX11_sign 0 = .ok (.aload_n 0, 1) := by decide +kernel
theorem dX11_sign_1 : decode cX11_sign 1 = .ok (.getfield 72, 3) := by decide +kernel
theorem dX11_sign_4 : decode cX11_sign 4 = .ok (.bipush (-2), 2) := by decide +kernel
theorem dX11_sign_6 : decode cX11_sign 6 = .ok (.if_icmp .eq 13, 3) := by decide +kernel
theorem dX11_sign_9 : decode cX11_sign 9 = .ok (.iload_n 1, 1) := by decide +kernel
theorem dX11_sign_10 : decode cX11_sign 10 = .ok (.ifCond .lt 9, 3) := by decide +kernel
theorem dX11_sign_13 : decode cX11_sign 13 = .ok (.iload_n 1, 1) := by decide +kernel
theorem dX11_sign_14 : decode cX11_sign 14 = .ok (.bipush 15, 2) := by decide +kernel
theorem dX11_sign_16 : decode cX11_sign 16 = .ok (.if_icmp .le 5, 3) := by decide +kernel
theorem dX11_sign_19 : decode cX11_sign 19 = .ok (.iconst (-1), 1) := by decide +kernel
theorem dX11_sign_20 : decode cX11_sign 20 = .ok (.ireturn, 1) := by decide +kernel
theorem dX11_sign_21 : decode cX11_sign 21 = .ok (.aload_n 0, 1) := by decide +kernel
theorem dX11_sign_22 : decode cX11_sign 22 = .ok (.invokevirtual 417, 3) := by decide +kernel
theorem dX11_sign_25 : decode cX11_sign 25 = .ok (.lstore_n 2, 1) := by decide +kernel
theorem dX11_sign_26 : decode cX11_sign 26 = .ok (.aload_n 0, 1) := by decide +kernel
theorem dX11_sign_27 : decode cX11_sign 27 = .ok (.iload_n 1, 1) := by decide +kernel
theorem dX11_sign_28 : decode cX11_sign 28 = .ok (.lload_n 2, 1) := by decide +kernel
theorem dX11_sign_29 : decode cX11_sign 29 = .ok (.invokevirtual 266, 3) := by decide +kernel
theorem dX11_sign_32 : decode cX11_sign 32 = .ok (.ifCond .ne 46, 3) := by decide +kernel
theorem dX11_sign_35 : decode cX11_sign 35 = .ok (.aload_n 0, 1) := by decide +kernel
theorem dX11_sign_36 : decode cX11_sign 36 = .ok (.getfield 259, 3) := by decide +kernel
theorem dX11_sign_39 : decode cX11_sign 39 = .ok (.sipush 400, 3) := by decide +kernel
theorem dX11_sign_42 : decode cX11_sign 42 = .ok (.if_icmp .ne 6, 3) := by decide +kernel
theorem dX11_sign_45 : decode cX11_sign 45 = .ok (.bipush (-5), 2) := by decide +kernel
theorem dX11_sign_47 : decode cX11_sign 47 = .ok (.ireturn, 1) := by decide +kernel
theorem dX11_sign_48 : decode cX11_sign 48 = .ok (.aload_n 0, 1) := by decide +kernel
theorem dX11_sign_49 : decode cX11_sign 49 = .ok (.getfield 42, 3) := by decide +kernel
theorem dX11_sign_52 : decode cX11_sign 52 = .ok (.aload_n 0, 1) := by decide +kernel
theorem dX11_sign_53 : decode cX11_sign 53 = .ok (.getfield 259, 3) := by decide +kernel
theorem dX11_sign_56 : decode cX11_sign 56 = .ok (.iload_n 1, 1) := by decide +kernel
theorem dX11_sign_57 : decode cX11_sign 57 = .ok (.iastore, 1) := by decide +kernel
theorem dX11_sign_58 : decode cX11_sign 58 = .ok (.aload_n 0, 1) := by decide +kernel
theorem dX11_sign_59 : decode cX11_sign 59 = .ok (.getfield 45, 3) := by decide +kernel
theorem dX11_sign_62 : decode cX11_sign 62 = .ok (.aload_n 0, 1) := by decide +kernel
theorem dX11_sign_63 : decode cX11_sign 63 = .ok (.getfield 259, 3) := by decide +kernel
theorem dX11_sign_66 : decode cX11_sign 66 = .ok (.lload_n 2, 1) := by decide +kernel
theorem dX11_sign_67 : decode cX11_sign 67 = .ok (.lastore, 1) := by decide +kernel
theorem dX11_sign_68 : decode cX11_sign 68 = .ok (.aload_n 0, 1) := by decide +kernel
theorem dX11_sign_69 : decode cX11_sign 69 = .ok (.dup, 1) := by decide +kernel
theorem dX11_sign_70 : decode cX11_sign 70 = .ok (.getfield 259, 3) := by decide +kernel
theorem dX11_sign_73 : decode cX11_sign 73 = .ok (.iconst 1, 1) := by decide +kernel
theorem dX11_sign_74 : decode cX11_sign 74 = .ok (.iadd, 1) := by decide +kernel
theorem dX11_sign_75 : decode cX11_sign 75 = .ok (.putfield 259, 3) := by decide +kernel
theorem dX11_sign_78 : decode cX11_sign 78 = .ok (.aload_n 0, 1) := by decide +kernel
theorem dX11_sign_79 : decode cX11_sign 79 = .ok (.dup, 1) := by decide +kernel
theorem dX11_sign_80 : decode cX11_sign 80 = .ok (.getfield 405, 3) := by decide +kernel
theorem dX11_sign_83 : decode cX11_sign 83 = .ok (.iconst 1, 1) := by decide +kernel
theorem dX11_sign_84 : decode cX11_sign 84 = .ok (.iload_n 1, 1) := by decide +kernel
theorem dX11_sign_85 : decode cX11_sign 85 = .ok (.ishl, 1) := by decide +kernel
theorem dX11_sign_86 : decode cX11_sign 86 = .ok (.ior, 1) := by decide +kernel
theorem dX11_sign_87 : decode cX11_sign 87 = .ok (.putfield 405, 3) := by decide +kernel
theorem dX11_sign_90 : decode cX11_sign 90 = .ok (.aload_n 0, 1) := by decide +kernel
theorem dX11_sign_91 : decode cX11_sign 91 = .ok (.getfield 405, 3) := by decide +kernel
theorem dX11_sign_94 : decode cX11_sign 94 = .ok (.invokestatic 408, 3) := by decide +kernel
theorem dX11_sign_97 : decode cX11_sign 97 = .ok (.ireturn, 1) := by decide +kernel
theorem dX11_show_0 : decode cX11_show 0 = .ok (.aload_n 0, 1) := by decide +kernel
theorem dX11_show_1 : decode cX11_show 1 = .ok (.getfield 72, 3) := by decide +kernel
theorem dX11_show_4 : decode cX11_show 4 = .ok (.bipush (-2), 2) := by decide +kernel
theorem dX11_show_6 : decode cX11_show 6 = .ok (.if_icmp .ne 5, 3) := by decide +kernel
theorem dX11_show_9 : decode cX11_show 9 = .ok (.iconst (-1), 1) := by decide +kernel
theorem dX11_show_10 : decode cX11_show 10 = .ok (.ireturn, 1) := by decide +kernel
theorem dX11_show_11 : decode cX11_show 11 = .ok (.aload_n 0, 1) := by decide +kernel
theorem dX11_show_12 : decode cX11_show 12 = .ok (.iconst 0, 1) := by decide +kernel
theorem dX11_show_13 : decode cX11_show 13 = .ok (.putfield 121, 3) := by decide +kernel
theorem dX11_show_16 : decode cX11_show 16 = .ok (.aload_n 0, 1) := by decide +kernel
theorem dX11_show_17 : decode cX11_show 17 = .ok (.getfield 17, 3) := by decide +kernel
theorem dX11_show_20 : decode cX11_show 20 = .ok (.iconst 0, 1) := by decide +kernel
theorem dX11_show_21 : decode cX11_show 21 = .ok (.aload_n 0, 1) := by decide +kernel
theorem dX11_show_22 : decode cX11_show 22 = .ok (.getfield 72, 3) := by decide +kernel
theorem dX11_show_25 : decode cX11_show 25 = .ok (.iastore, 1) := by decide +kernel
theorem dX11_show_26 : decode cX11_show 26 = .ok (.aload_n 0, 1) := by decide +kernel
theorem dX11_show_27 : decode cX11_show 27 = .ok (.getfield 17, 3) := by decide +kernel
theorem dX11_show_30 : decode cX11_show 30 = .ok (.iconst 1, 1) := by decide +kernel
theorem dX11_show_31 : decode cX11_show 31 = .ok (.aload_n 0, 1) := by decide +kernel
theorem dX11_show_32 : decode cX11_show 32 = .ok (.getfield 399, 3) := by decide +kernel
theorem dX11_show_35 : decode cX11_show 35 = .ok (.bipush 8, 2) := by decide +kernel
theorem dX11_show_37 : decode cX11_show 37 = .ok (.ishr, 1) := by decide +kernel
theorem dX11_show_38 : decode cX11_show 38 = .ok (.iastore, 1) := by decide +kernel
theorem dX11_show_39 : decode cX11_show 39 = .ok (.aload_n 0, 1) := by decide +kernel
theorem dX11_show_40 : decode cX11_show 40 = .ok (.getfield 17, 3) := by decide +kernel
theorem dX11_show_43 : decode cX11_show 43 = .ok (.iconst 2, 1) := by decide +kernel
theorem dX11_show_44 : decode cX11_show 44 = .ok (.aload_n 0, 1) := by decide +kernel
theorem dX11_show_45 : decode cX11_show 45 = .ok (.getfield 399, 3) := by decide +kernel
theorem dX11_show_48 : decode cX11_show 48 = .ok (.sipush 255, 3) := by decide +kernel
theorem dX11_show_51 : decode cX11_show 51 = .ok (.iand, 1) := by decide +kernel
theorem dX11_show_52 : decode cX11_show 52 = .ok (.iastore, 1) := by decide +kernel
theorem dX11_show_53 : decode cX11_show 53 = .ok (.iconst 0, 1) := by decide +kernel
theorem dX11_show_54 : decode cX11_show 54 = .ok (.istore_n 1, 1) := by decide +kernel
theorem dX11_show_55 : decode cX11_show 55 = .ok (.iload_n 1, 1) := by decide +kernel
theorem dX11_show_56 : decode cX11_show 56 = .ok (.aload_n 0, 1) := by decide +kernel
theorem dX11_show_57 : decode cX11_show 57 = .ok (.getfield 399, 3) := by decide +kernel
theorem dX11_show_60 : decode cX11_show 60 = .ok (.if_icmp .ge 23, 3) := by decide +kernel
theorem dX11_show_63 : decode cX11_show 63 = .ok (.aload_n 0, 1) := by decide +kernel
theorem dX11_show_64 : decode cX11_show 64 = .ok (.getfield 17, 3) := by decide +kernel
theorem dX11_show_67 : decode cX11_show 67 = .ok (.iconst 3, 1) := by decide +kernel
theorem dX11_show_68 : decode cX11_show 68 = .ok (.iload_n 1, 1) := by decide +kernel
theorem dX11_show_69 : decode cX11_show 69 = .ok (.iadd, 1) := by decide +kernel
theorem dX11_show_70 : decode cX11_show 70 = .ok (.aload_n 0, 1) := by decide +kernel
theorem dX11_show_71 : decode cX11_show 71 = .ok (.getfield 69, 3) := by decide +kernel
theorem dX11_show_74 : decode cX11_show 74 = .ok (.iload_n 1, 1) := by decide +kernel
theorem dX11_show_75 : decode cX11_show 75 = .ok (.iaload, 1) := by decide +kernel
theorem dX11_show_76 : decode cX11_show 76 = .ok (.iastore, 1) := by decide +kernel
theorem dX11_show_77 : decode cX11_show 77 = .ok (.iinc 1 1, 3) := by decide +kernel
theorem dX11_show_80 : decode cX11_show 80 = .ok (.goto (-25), 3) := by decide +kernel
theorem dX11_show_83 : decode cX11_show 83 = .ok (.aload_n 0, 1) := by decide +kernel
theorem dX11_show_84 : decode cX11_show 84 = .ok (.iconst 3, 1) := by decide +kernel
theorem dX11_show_85 : decode cX11_show 85 = .ok (.aload_n 0, 1) := by decide +kernel
theorem dX11_show_86 : decode cX11_show 86 = .ok (.getfield 399, 3) := by decide +kernel
theorem dX11_show_89 : decode cX11_show 89 = .ok (.iadd, 1) := by decide +kernel
theorem dX11_show_90 : decode cX11_show 90 = .ok (.putfield 121, 3) := by decide +kernel
theorem dX11_show_93 : decode cX11_show 93 = .ok (.aload_n 0, 1) := by decide +kernel
theorem dX11_show_94 : decode cX11_show 94 = .ok (.getfield 17, 3) := by decide +kernel
theorem dX11_show_97 : decode cX11_show 97 = .ok (.aload_n 0, 1) := by decide +kernel
theorem dX11_show_98 : decode cX11_show 98 = .ok (.getfield 121, 3) := by decide +kernel
theorem dX11_show_101 : decode cX11_show 101 = .ok (.aload_n 0, 1) := by decide +kernel
theorem dX11_show_102 : decode cX11_show 102 = .ok (.getfield 405, 3) := by decide +kernel
theorem dX11_show_105 : decode cX11_show 105 = .ok (.invokestatic 408, 3) := by decide +kernel
theorem dX11_show_108 : decode cX11_show 108 = .ok (.iastore, 1) := by decide +kernel
theorem dX11_show_109 : decode cX11_show 109 = .ok (.aload_n 0, 1) := by decide +kernel
theorem dX11_show_110 : decode cX11_show 110 = .ok (.dup, 1) := by decide +kernel
theorem dX11_show_111 : decode cX11_show 111 = .ok (.getfield 121, 3) := by decide +kernel
theorem dX11_show_114 : decode cX11_show 114 = .ok (.iconst 1, 1) := by decide +kernel
theorem dX11_show_115 : decode cX11_show 115 = .ok (.iadd, 1) := by decide +kernel
theorem dX11_show_116 : decode cX11_show 116 = .ok (.putfield 121, 3) := by decide +kernel
theorem dX11_show_119 : decode cX11_show 119 = .ok (.iconst 0, 1) := by decide +kernel
theorem dX11_show_120 : decode cX11_show 120 = .ok (.istore_n 1, 1) := by decide +kernel
theorem dX11_show_121 : decode cX11_show 121 = .ok (.iload_n 1, 1) := by decide +kernel
theorem dX11_show_122 : decode cX11_show 122 = .ok (.bipush 16, 2) := by decide +kernel
theorem dX11_show_124 : decode cX11_show 124 = .ok (.if_icmp .ge 41, 3) := by decide +kernel
theorem dX11_show_127 : decode cX11_show 127 = .ok (.aload_n 0, 1) := by decide +kernel
theorem dX11_show_128 : decode cX11_show 128 = .ok (.getfield 405, 3) := by decide +kernel
theorem dX11_show_131 : decode cX11_show 131 = .ok (.iload_n 1, 1) := by decide +kernel
theorem dX11_show_132 : decode cX11_show 132 = .ok (.ishr, 1) := by decide +kernel
theorem dX11_show_133 : decode cX11_show 133 = .ok (.iconst 1, 1) := by decide +kernel
theorem dX11_show_134 : decode cX11_show 134 = .ok (.iand, 1) := by decide +kernel
theorem dX11_show_135 : decode cX11_show 135 = .ok (.iconst 1, 1) := by decide +kernel
theorem dX11_show_136 : decode cX11_show 136 = .ok (.if_icmp .ne 23, 3) := by decide +kernel
theorem dX11_show_139 : decode cX11_show 139 = .ok (.aload_n 0, 1) := by decide +kernel
theorem dX11_show_140 : decode cX11_show 140 = .ok (.getfield 17, 3) := by decide +kernel
theorem dX11_show_143 : decode cX11_show 143 = .ok (.aload_n 0, 1) := by decide +kernel
theorem dX11_show_144 : decode cX11_show 144 = .ok (.getfield 121, 3) := by decide +kernel
theorem dX11_show_147 : decode cX11_show 147 = .ok (.iload_n 1, 1) := by decide +kernel
theorem dX11_show_148 : decode cX11_show 148 = .ok (.iastore, 1) := by decide +kernel
theorem dX11_show_149 : decode cX11_show 149 = .ok (.aload_n 0, 1) := by decide +kernel
theorem dX11_show_150 : decode cX11_show 150 = .ok (.dup, 1) := by decide +kernel
theorem dX11_show_151 : decode cX11_show 151 = .ok (.getfield 121, 3) := by decide +kernel
theorem dX11_show_154 : decode cX11_show 154 = .ok (.iconst 1, 1) := by decide +kernel
theorem dX11_show_155 : decode cX11_show 155 = .ok (.iadd, 1) := by decide +kernel
theorem dX11_show_156 : decode cX11_show 156 = .ok (.putfield 121, 3) := by decide +kernel
theorem dX11_show_159 : decode cX11_show 159 = .ok (.iinc 1 1, 3) := by decide +kernel
theorem dX11_show_162 : decode cX11_show 162 = .ok (.goto (-41), 3) := by decide +kernel
theorem dX11_show_165 : decode cX11_show 165 = .ok (.aload_n 0, 1) := by decide +kernel
theorem dX11_show_166 : decode cX11_show 166 = .ok (.getfield 121, 3) := by decide +kernel
theorem dX11_show_169 : decode cX11_show 169 = .ok (.ireturn, 1) := by decide +kernel
theorem dX11_piece_0 : decode cX11_piece 0 = .ok (.iconst 0, 1) := by decide +kernel
theorem dX11_piece_1 : decode cX11_piece 1 = .ok (.istore_n 3, 1) := by decide +kernel
theorem dX11_piece_2 : decode cX11_piece 2 = .ok (.iload_n 3, 1) := by decide +kernel
theorem dX11_piece_3 : decode cX11_piece 3 = .ok (.aload_n 0, 1) := by decide +kernel
theorem dX11_piece_4 : decode cX11_piece 4 = .ok (.getfield 396, 3) := by decide +kernel
theorem dX11_piece_7 : decode cX11_piece 7 = .ok (.if_icmp .ge 113, 3) := by decide +kernel
theorem dX11_piece_10 : decode cX11_piece 10 = .ok (.aload_n 0, 1) := by decide +kernel
theorem dX11_piece_11 : decode cX11_piece 11 = .ok (.getfield 60, 3) := by decide +kernel
theorem dX11_piece_14 : decode cX11_piece 14 = .ok (.iload_n 3, 1) := by decide +kernel
theorem dX11_piece_15 : decode cX11_piece 15 = .ok (.iaload, 1) := by decide +kernel
theorem dX11_piece_16 : decode cX11_piece 16 = .ok (.iload_n 1, 1) := by decide +kernel
theorem dX11_piece_17 : decode cX11_piece 17 = .ok (.if_icmp .ne 97, 3) := by decide +kernel
theorem dX11_piece_20 : decode cX11_piece 20 = .ok (.iload_n 2, 1) := by decide +kernel
theorem dX11_piece_21 : decode cX11_piece 21 = .ok (.ifCond .lt 93, 3) := by decide +kernel
theorem dX11_piece_24 : decode cX11_piece 24 = .ok (.ldc2_w 420, 3) := by decide +kernel
theorem dX11_piece_27 : decode cX11_piece 27 = .ok (.iload_n 2, 1) := by decide +kernel
theorem dX11_piece_28 : decode cX11_piece 28 = .ok (.i2l, 1) := by decide +kernel
theorem dX11_piece_29 : decode cX11_piece 29 = .ok (.lmul, 1) := by decide +kernel
theorem dX11_piece_30 : decode cX11_piece 30 = .ok (.aload_n 0, 1) := by decide +kernel
theorem dX11_piece_31 : decode cX11_piece 31 = .ok (.getfield 63, 3) := by decide +kernel
theorem dX11_piece_34 : decode cX11_piece 34 = .ok (.iload_n 3, 1) := by decide +kernel
theorem dX11_piece_35 : decode cX11_piece 35 = .ok (.iaload, 1) := by decide +kernel
theorem dX11_piece_36 : decode cX11_piece 36 = .ok (.i2l, 1) := by decide +kernel
theorem dX11_piece_37 : decode cX11_piece 37 = .ok (.lcmp, 1) := by decide +kernel
theorem dX11_piece_38 : decode cX11_piece 38 = .ok (.ifCond .ge 76, 3) := by decide +kernel
theorem dX11_piece_41 : decode cX11_piece 41 = .ok (.aload_n 0, 1) := by decide +kernel
theorem dX11_piece_42 : decode cX11_piece 42 = .ok (.getfield 63, 3) := by decide +kernel
theorem dX11_piece_45 : decode cX11_piece 45 = .ok (.iload_n 3, 1) := by decide +kernel
theorem dX11_piece_46 : decode cX11_piece 46 = .ok (.iaload, 1) := by decide +kernel
theorem dX11_piece_47 : decode cX11_piece 47 = .ok (.bipush 64, 2) := by decide +kernel
theorem dX11_piece_49 : decode cX11_piece 49 = .ok (.iload_n 2, 1) := by decide +kernel
theorem dX11_piece_50 : decode cX11_piece 50 = .ok (.imul, 1) := by decide +kernel
theorem dX11_piece_51 : decode cX11_piece 51 = .ok (.isub, 1) := by decide +kernel
theorem dX11_piece_52 : decode cX11_piece 52 = .ok (.istore 4, 2) := by decide +kernel
theorem dX11_piece_54 : decode cX11_piece 54 = .ok (.aload_n 0, 1) := by decide +kernel
theorem dX11_piece_55 : decode cX11_piece 55 = .ok (.iload 4, 2) := by decide +kernel
theorem dX11_piece_57 : decode cX11_piece 57 = .ok (.bipush 64, 2) := by decide +kernel
theorem dX11_piece_59 : decode cX11_piece 59 = .ok (.if_icmp .ge 8, 3) := by decide +kernel
theorem dX11_piece_62 : decode cX11_piece 62 = .ok (.iload 4, 2) := by decide +kernel
theorem dX11_piece_64 : decode cX11_piece 64 = .ok (.goto 5, 3) := by decide +kernel
theorem dX11_piece_67 : decode cX11_piece 67 = .ok (.bipush 64, 2) := by decide +kernel
theorem dX11_piece_69 : decode cX11_piece 69 = .ok (.putfield 121, 3) := by decide +kernel
theorem dX11_piece_72 : decode cX11_piece 72 = .ok (.iconst 0, 1) := by decide +kernel
theorem dX11_piece_73 : decode cX11_piece 73 = .ok (.istore 5, 2) := by decide +kernel
theorem dX11_piece_75 : decode cX11_piece 75 = .ok (.iload 5, 2) := by decide +kernel
theorem dX11_piece_77 : decode cX11_piece 77 = .ok (.aload_n 0, 1) := by decide +kernel
theorem dX11_piece_78 : decode cX11_piece 78 = .ok (.getfield 121, 3) := by decide +kernel
theorem dX11_piece_81 : decode cX11_piece 81 = .ok (.if_icmp .ge 28, 3) := by decide +kernel
theorem dX11_piece_84 : decode cX11_piece 84 = .ok (.aload_n 0, 1) := by decide +kernel
theorem dX11_piece_85 : decode cX11_piece 85 = .ok (.getfield 17, 3) := by decide +kernel
theorem dX11_piece_88 : decode cX11_piece 88 = .ok (.iload 5, 2) := by decide +kernel
theorem dX11_piece_90 : decode cX11_piece 90 = .ok (.aload_n 0, 1) := by decide +kernel
theorem dX11_piece_91 : decode cX11_piece 91 = .ok (.iload_n 3, 1) := by decide +kernel
theorem dX11_piece_92 : decode cX11_piece 92 = .ok (.bipush 64, 2) := by decide +kernel
theorem dX11_piece_94 : decode cX11_piece 94 = .ok (.iload_n 2, 1) := by decide +kernel
theorem dX11_piece_95 : decode cX11_piece 95 = .ok (.imul, 1) := by decide +kernel
theorem dX11_piece_96 : decode cX11_piece 96 = .ok (.iload 5, 2) := by decide +kernel
theorem dX11_piece_98 : decode cX11_piece 98 = .ok (.iadd, 1) := by decide +kernel
theorem dX11_piece_99 : decode cX11_piece 99 = .ok (.invokevirtual 414, 3) := by decide +kernel
theorem dX11_piece_102 : decode cX11_piece 102 = .ok (.iastore, 1) := by decide +kernel
theorem dX11_piece_103 : decode cX11_piece 103 = .ok (.iinc 5 1, 3) := by decide +kernel
theorem dX11_piece_106 : decode cX11_piece 106 = .ok (.goto (-31), 3) := by decide +kernel
theorem dX11_piece_109 : decode cX11_piece 109 = .ok (.aload_n 0, 1) := by decide +kernel
theorem dX11_piece_110 : decode cX11_piece 110 = .ok (.getfield 121, 3) := by decide +kernel
theorem dX11_piece_113 : decode cX11_piece 113 = .ok (.ireturn, 1) := by decide +kernel
theorem dX11_piece_114 : decode cX11_piece 114 = .ok (.iinc 3 1, 3) := by decide +kernel
theorem dX11_piece_117 : decode cX11_piece 117 = .ok (.goto (-115), 3) := by decide +kernel
theorem dX11_piece_120 : decode cX11_piece 120 = .ok (.iconst (-1), 1) := by decide +kernel
theorem dX11_piece_121 : decode cX11_piece 121 = .ok (.ireturn, 1) := by decide +kernel
