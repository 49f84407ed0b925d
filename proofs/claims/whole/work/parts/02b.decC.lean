theorem dX8_init_0 : decode cX8_init 0 = .ok (.aload_n 0, 1) := by decide +kernel
theorem dX8_init_1 : decode cX8_init 1 = .ok (.invokespecial 3, 3) := by decide +kernel
theorem dX8_init_4 : decode cX8_init 4 = .ok (.aload_n 0, 1) := by decide +kernel
theorem dX8_init_5 : decode cX8_init 5 = .ok (.new 9, 3) := by decide +kernel
theorem dX8_init_8 : decode cX8_init 8 = .ok (.dup, 1) := by decide +kernel
theorem dX8_init_9 : decode cX8_init 9 = .ok (.bipush 32, 2) := by decide +kernel
theorem dX8_init_11 : decode cX8_init 11 = .ok (.invokespecial 11, 3) := by decide +kernel
theorem dX8_init_14 : decode cX8_init 14 = .ok (.putfield 14, 3) := by decide +kernel
theorem dX8_init_17 : decode cX8_init 17 = .ok (.aload_n 0, 1) := by decide +kernel
theorem dX8_init_18 : decode cX8_init 18 = .ok (.iconst (-1), 1) := by decide +kernel
theorem dX8_init_19 : decode cX8_init 19 = .ok (.putfield 20, 3) := by decide +kernel
theorem dX8_init_22 : decode cX8_init 22 = .ok (.aload_n 0, 1) := by decide +kernel
theorem dX8_init_23 : decode cX8_init 23 = .ok (.iconst 0, 1) := by decide +kernel
theorem dX8_init_24 : decode cX8_init 24 = .ok (.putfield 24, 3) := by decide +kernel
theorem dX8_init_27 : decode cX8_init 27 = .ok (.aload_n 0, 1) := by decide +kernel
theorem dX8_init_28 : decode cX8_init 28 = .ok (.aload_n 1, 1) := by decide +kernel
theorem dX8_init_29 : decode cX8_init 29 = .ok (.putfield 27, 3) := by decide +kernel
theorem dX8_init_32 : decode cX8_init 32 = .ok (.aload_n 0, 1) := by decide +kernel
theorem dX8_init_33 : decode cX8_init 33 = .ok (.iload_n 2, 1) := by decide +kernel
theorem dX8_init_34 : decode cX8_init 34 = .ok (.putfield 31, 3) := by decide +kernel
theorem dX8_init_37 : decode cX8_init 37 = .ok (.aload_n 0, 1) := by decide +kernel
theorem dX8_init_38 : decode cX8_init 38 = .ok (.aload_n 1, 1) := by decide +kernel
theorem dX8_init_39 : decode cX8_init 39 = .ok (.iconst 0, 1) := by decide +kernel
theorem dX8_init_40 : decode cX8_init 40 = .ok (.iload_n 2, 1) := by decide +kernel
theorem dX8_init_41 : decode cX8_init 41 = .ok (.invokevirtual 34, 3) := by decide +kernel
theorem dX8_init_44 : decode cX8_init 44 = .ok (.putfield 40, 3) := by decide +kernel
theorem dX8_init_47 : decode cX8_init 47 = .ok (.return_, 1) := by decide +kernel
theorem dX8_install_0 : decode cX8_install 0 = .ok (.aload_n 0, 1) := by decide +kernel
theorem dX8_install_1 : decode cX8_install 1 = .ok (.invokevirtual 44, 3) := by decide +kernel
theorem dX8_install_4 : decode cX8_install 4 = .ok (.aload_n 0, 1) := by decide +kernel
theorem dX8_install_5 : decode cX8_install 5 = .ok (.iconst 1, 1) := by decide +kernel
theorem dX8_install_6 : decode cX8_install 6 = .ok (.invokevirtual 47, 3) := by decide +kernel
theorem dX8_install_9 : decode cX8_install 9 = .ok (.aload_n 0, 1) := by decide +kernel
theorem dX8_install_10 : decode cX8_install 10 = .ok (.getfield 27, 3) := by decide +kernel
theorem dX8_install_13 : decode cX8_install 13 = .ok (.bipush 32, 2) := by decide +kernel
theorem dX8_install_15 : decode cX8_install 15 = .ok (.aload_n 0, 1) := by decide +kernel
theorem dX8_install_16 : decode cX8_install 16 = .ok (.getfield 14, 3) := by decide +kernel
theorem dX8_install_19 : decode cX8_install 19 = .ok (.iconst 0, 1) := by decide +kernel
theorem dX8_install_20 : decode cX8_install 20 = .ok (.invokevirtual 50, 3) := by decide +kernel
theorem dX8_install_23 : decode cX8_install 23 = .ok (.aload_n 0, 1) := by decide +kernel
theorem dX8_install_24 : decode cX8_install 24 = .ok (.invokevirtual 54, 3) := by decide +kernel
theorem dX8_install_27 : decode cX8_install 27 = .ok (.return_, 1) := by decide +kernel
theorem dX8_becomeFactory_0 : decode cX8_becomeFactory 0 = .ok (.aload_n 0, 1) := by decide +kernel
theorem dX8_becomeFactory_1 : decode cX8_becomeFactory 1 = .ok (.iconst (-1), 1) := by decide +kernel
theorem dX8_becomeFactory_2 : decode cX8_becomeFactory 2 = .ok (.putfield 20, 3) := by decide +kernel
theorem dX8_becomeFactory_5 : decode cX8_becomeFactory 5 = .ok (.aload_n 0, 1) := by decide +kernel
theorem dX8_becomeFactory_6 : decode cX8_becomeFactory 6 = .ok (.iconst 0, 1) := by decide +kernel
theorem dX8_becomeFactory_7 : decode cX8_becomeFactory 7 = .ok (.putfield 24, 3) := by decide +kernel
theorem dX8_becomeFactory_10 : decode cX8_becomeFactory 10 = .ok (.aload_n 0, 1) := by decide +kernel
theorem dX8_becomeFactory_11 : decode cX8_becomeFactory 11 = .ok (.iconst 0, 1) := by decide +kernel
theorem dX8_becomeFactory_12 : decode cX8_becomeFactory 12 = .ok (.putfield 57, 3) := by decide +kernel
theorem dX8_becomeFactory_15 : decode cX8_becomeFactory 15 = .ok (.aload_n 0, 1) := by decide +kernel
theorem dX8_becomeFactory_16 : decode cX8_becomeFactory 16 = .ok (.iconst 1, 1) := by decide +kernel
theorem dX8_becomeFactory_17 : decode cX8_becomeFactory 17 = .ok (.putfield 60, 3) := by decide +kernel
theorem dX8_becomeFactory_20 : decode cX8_becomeFactory 20 = .ok (.aload_n 0, 1) := by decide +kernel
theorem dX8_becomeFactory_21 : decode cX8_becomeFactory 21 = .ok (.aload_n 0, 1) := by decide +kernel
theorem dX8_becomeFactory_22 : decode cX8_becomeFactory 22 = .ok (.getfield 31, 3) := by decide +kernel
theorem dX8_becomeFactory_25 : decode cX8_becomeFactory 25 = .ok (.putfield 63, 3) := by decide +kernel
theorem dX8_becomeFactory_28 : decode cX8_becomeFactory 28 = .ok (.aload_n 0, 1) := by decide +kernel
theorem dX8_becomeFactory_29 : decode cX8_becomeFactory 29 = .ok (.aload_n 0, 1) := by decide +kernel
theorem dX8_becomeFactory_30 : decode cX8_becomeFactory 30 = .ok (.getfield 40, 3) := by decide +kernel
theorem dX8_becomeFactory_33 : decode cX8_becomeFactory 33 = .ok (.putfield 66, 3) := by decide +kernel
theorem dX8_becomeFactory_36 : decode cX8_becomeFactory 36 = .ok (.aload_n 0, 1) := by decide +kernel
theorem dX8_becomeFactory_37 : decode cX8_becomeFactory 37 = .ok (.iconst 0, 1) := by decide +kernel
theorem dX8_becomeFactory_38 : decode cX8_becomeFactory 38 = .ok (.iconst 0, 1) := by decide +kernel
theorem dX8_becomeFactory_39 : decode cX8_becomeFactory 39 = .ok (.iconst 0, 1) := by decide +kernel
theorem dX8_becomeFactory_40 : decode cX8_becomeFactory 40 = .ok (.lconst 0, 1) := by decide +kernel
theorem dX8_becomeFactory_41 : decode cX8_becomeFactory 41 = .ok (.invokevirtual 69, 3) := by decide +kernel
theorem dX8_becomeFactory_44 : decode cX8_becomeFactory 44 = .ok (.return_, 1) := by decide +kernel
theorem dX8_stage_0 : decode cX8_stage 0 = .ok (.aload_n 0, 1) := by decide +kernel
theorem dX8_stage_1 : decode cX8_stage 1 = .ok (.iload_n 1, 1) := by decide +kernel
theorem dX8_stage_2 : decode cX8_stage 2 = .ok (.putfield 73, 3) := by decide +kernel
theorem dX8_stage_5 : decode cX8_stage 5 = .ok (.aload_n 0, 1) := by decide +kernel
theorem dX8_stage_6 : decode cX8_stage 6 = .ok (.iload_n 2, 1) := by decide +kernel
theorem dX8_stage_7 : decode cX8_stage 7 = .ok (.putfield 76, 3) := by decide +kernel
theorem dX8_stage_10 : decode cX8_stage 10 = .ok (.aload_n 0, 1) := by decide +kernel
theorem dX8_stage_11 : decode cX8_stage 11 = .ok (.iload_n 3, 1) := by decide +kernel
theorem dX8_stage_12 : decode cX8_stage 12 = .ok (.putfield 79, 3) := by decide +kernel
theorem dX8_stage_15 : decode cX8_stage 15 = .ok (.aload_n 0, 1) := by decide +kernel
theorem dX8_stage_16 : decode cX8_stage 16 = .ok (.lload 4, 2) := by decide +kernel
theorem dX8_stage_18 : decode cX8_stage 18 = .ok (.putfield 82, 3) := by decide +kernel
theorem dX8_stage_21 : decode cX8_stage 21 = .ok (.return_, 1) := by decide +kernel
theorem dX8_stageNothing_0 : decode cX8_stageNothing 0 = .ok (.aload_n 0, 1) := by decide +kernel
theorem dX8_stageNothing_1 : decode cX8_stageNothing 1 = .ok (.iconst 0, 1) := by decide +kernel
theorem dX8_stageNothing_2 : decode cX8_stageNothing 2 = .ok (.iconst 0, 1) := by decide +kernel
theorem dX8_stageNothing_3 : decode cX8_stageNothing 3 = .ok (.iconst 0, 1) := by decide +kernel
theorem dX8_stageNothing_4 : decode cX8_stageNothing 4 = .ok (.lconst 0, 1) := by decide +kernel
theorem dX8_stageNothing_5 : decode cX8_stageNothing 5 = .ok (.invokevirtual 69, 3) := by decide +kernel
theorem dX8_stageNothing_8 : decode cX8_stageNothing 8 = .ok (.return_, 1) := by decide +kernel
theorem dX8_confirmStaged_0 : decode cX8_confirmStaged 0 = .ok (.aload_n 0, 1) := by decide +kernel
theorem dX8_confirmStaged_1 : decode cX8_confirmStaged 1 = .ok (.aload_n 0, 1) := by decide +kernel
theorem dX8_confirmStaged_2 : decode cX8_confirmStaged 2 = .ok (.invokevirtual 85, 3) := by decide +kernel
theorem dX8_confirmStaged_5 : decode cX8_confirmStaged 5 = .ok (.putfield 57, 3) := by decide +kernel
theorem dX8_confirmStaged_8 : decode cX8_confirmStaged 8 = .ok (.aload_n 0, 1) := by decide +kernel
theorem dX8_confirmStaged_9 : decode cX8_confirmStaged 9 = .ok (.aload_n 0, 1) := by decide +kernel
theorem dX8_confirmStaged_10 : decode cX8_confirmStaged 10 = .ok (.getfield 76, 3) := by decide +kernel
theorem dX8_confirmStaged_13 : decode cX8_confirmStaged 13 = .ok (.putfield 60, 3) := by decide +kernel
theorem dX8_confirmStaged_16 : decode cX8_confirmStaged 16 = .ok (.aload_n 0, 1) := by decide +kernel
theorem dX8_confirmStaged_17 : decode cX8_confirmStaged 17 = .ok (.aload_n 0, 1) := by decide +kernel
theorem dX8_confirmStaged_18 : decode cX8_confirmStaged 18 = .ok (.getfield 79, 3) := by decide +kernel
theorem dX8_confirmStaged_21 : decode cX8_confirmStaged 21 = .ok (.putfield 63, 3) := by decide +kernel
theorem dX8_confirmStaged_24 : decode cX8_confirmStaged 24 = .ok (.aload_n 0, 1) := by decide +kernel
theorem dX8_confirmStaged_25 : decode cX8_confirmStaged 25 = .ok (.aload_n 0, 1) := by decide +kernel
theorem dX8_confirmStaged_26 : decode cX8_confirmStaged 26 = .ok (.getfield 82, 3) := by decide +kernel
theorem dX8_confirmStaged_29 : decode cX8_confirmStaged 29 = .ok (.putfield 66, 3) := by decide +kernel
theorem dX8_confirmStaged_32 : decode cX8_confirmStaged 32 = .ok (.aload_n 0, 1) := by decide +kernel
theorem dX8_confirmStaged_33 : decode cX8_confirmStaged 33 = .ok (.invokevirtual 89, 3) := by decide +kernel
theorem dX8_confirmStaged_36 : decode cX8_confirmStaged 36 = .ok (.return_, 1) := by decide +kernel
theorem dX8_otherSlot_0 : decode cX8_otherSlot 0 = .ok (.iconst 1, 1) := by decide +kernel
theorem dX8_otherSlot_1 : decode cX8_otherSlot 1 = .ok (.aload_n 0, 1) := by decide +kernel
theorem dX8_otherSlot_2 : decode cX8_otherSlot 2 = .ok (.getfield 57, 3) := by decide +kernel
theorem dX8_otherSlot_5 : decode cX8_otherSlot 5 = .ok (.isub, 1) := by decide +kernel
theorem dX8_otherSlot_6 : decode cX8_otherSlot 6 = .ok (.ireturn, 1) := by decide +kernel
theorem dX8_stages_0 : decode cX8_stages 0 = .ok (.aload_n 0, 1) := by decide +kernel
theorem dX8_stages_1 : decode cX8_stages 1 = .ok (.getfield 76, 3) := by decide +kernel
theorem dX8_stages_4 : decode cX8_stages 4 = .ok (.iload_n 1, 1) := by decide +kernel
theorem dX8_stages_5 : decode cX8_stages 5 = .ok (.if_icmp .ne 24, 3) := by decide +kernel
theorem dX8_stages_8 : decode cX8_stages 8 = .ok (.aload_n 0, 1) := by decide +kernel
theorem dX8_stages_9 : decode cX8_stages 9 = .ok (.getfield 79, 3) := by decide +kernel
theorem dX8_stages_12 : decode cX8_stages 12 = .ok (.iload_n 2, 1) := by decide +kernel
theorem dX8_stages_13 : decode cX8_stages 13 = .ok (.if_icmp .ne 16, 3) := by decide +kernel
theorem dX8_stages_16 : decode cX8_stages 16 = .ok (.aload_n 0, 1) := by decide +kernel
theorem dX8_stages_17 : decode cX8_stages 17 = .ok (.getfield 82, 3) := by decide +kernel
theorem dX8_stages_20 : decode cX8_stages 20 = .ok (.lload_n 3, 1) := by decide +kernel
theorem dX8_stages_21 : decode cX8_stages 21 = .ok (.lcmp, 1) := by decide +kernel
theorem dX8_stages_22 : decode cX8_stages 22 = .ok (.ifCond .ne 7, 3) := by decide +kernel
theorem dX8_stages_25 : decode cX8_stages 25 = .ok (.iconst 1, 1) := by decide +kernel
theorem dX8_stages_26 : decode cX8_stages 26 = .ok (.goto 4, 3) := by decide +kernel
theorem dX8_stages_29 : decode cX8_stages 29 = .ok (.iconst 0, 1) := by decide +kernel
theorem dX8_stages_30 : decode cX8_stages 30 = .ok (.ireturn, 1) := by decide +kernel
theorem dX8_store_0 : decode cX8_store 0 = .ok (.aload_n 0, 1) := by decide +kernel
theorem dX8_store_1 : decode cX8_store 1 = .ok (.getfield 20, 3) := by decide +kernel
theorem dX8_store_4 : decode cX8_store 4 = .ok (.ifCond .ge 7, 3) := by decide +kernel
theorem dX8_store_7 : decode cX8_store 7 = .ok (.iconst 0, 1) := by decide +kernel
theorem dX8_store_8 : decode cX8_store 8 = .ok (.goto 9, 3) := by decide +kernel
theorem dX8_store_11 : decode cX8_store 11 = .ok (.aload_n 0, 1) := by decide +kernel
theorem dX8_store_12 : decode cX8_store 12 = .ok (.getfield 20, 3) := by decide +kernel
theorem dX8_store_15 : decode cX8_store 15 = .ok (.iconst 4, 1) := by decide +kernel
theorem dX8_store_16 : decode cX8_store 16 = .ok (.idiv, 1) := by decide +kernel
theorem dX8_store_17 : decode cX8_store 17 = .ok (.istore_n 1, 1) := by decide +kernel
theorem dX8_store_18 : decode cX8_store 18 = .ok (.aload_n 0, 1) := by decide +kernel
theorem dX8_store_19 : decode cX8_store 19 = .ok (.iload_n 1, 1) := by decide +kernel
theorem dX8_store_20 : decode cX8_store 20 = .ok (.invokevirtual 92, 3) := by decide +kernel
theorem dX8_store_23 : decode cX8_store 23 = .ok (.istore_n 2, 1) := by decide +kernel
theorem dX8_store_24 : decode cX8_store 24 = .ok (.iload_n 2, 1) := by decide +kernel
theorem dX8_store_25 : decode cX8_store 25 = .ok (.ifCond .ge 20, 3) := by decide +kernel
theorem dX8_store_28 : decode cX8_store 28 = .ok (.iconst 1, 1) := by decide +kernel
theorem dX8_store_29 : decode cX8_store 29 = .ok (.iload_n 1, 1) := by decide +kernel
theorem dX8_store_30 : decode cX8_store 30 = .ok (.isub, 1) := by decide +kernel
theorem dX8_store_31 : decode cX8_store 31 = .ok (.iconst 4, 1) := by decide +kernel
theorem dX8_store_32 : decode cX8_store 32 = .ok (.imul, 1) := by decide +kernel
theorem dX8_store_33 : decode cX8_store 33 = .ok (.istore_n 2, 1) := by decide +kernel
theorem dX8_store_34 : decode cX8_store 34 = .ok (.aload_n 0, 1) := by decide +kernel
theorem dX8_store_35 : decode cX8_store 35 = .ok (.getfield 27, 3) := by decide +kernel
theorem dX8_store_38 : decode cX8_store 38 = .ok (.bipush 9, 2) := by decide +kernel
theorem dX8_store_40 : decode cX8_store 40 = .ok (.iload_n 1, 1) := by decide +kernel
theorem dX8_store_41 : decode cX8_store 41 = .ok (.isub, 1) := by decide +kernel
theorem dX8_store_42 : decode cX8_store 42 = .ok (.invokevirtual 96, 3) := by decide +kernel
theorem dX8_store_45 : decode cX8_store 45 = .ok (.aload_n 0, 1) := by decide +kernel
theorem dX8_store_46 : decode cX8_store 46 = .ok (.aload_n 0, 1) := by decide +kernel
theorem dX8_store_47 : decode cX8_store 47 = .ok (.getfield 24, 3) := by decide +kernel
theorem dX8_store_50 : decode cX8_store 50 = .ok (.iconst 1, 1) := by decide +kernel
theorem dX8_store_51 : decode cX8_store 51 = .ok (.iadd, 1) := by decide +kernel
theorem dX8_store_52 : decode cX8_store 52 = .ok (.invokevirtual 47, 3) := by decide +kernel
theorem dX8_store_55 : decode cX8_store 55 = .ok (.aload_n 0, 1) := by decide +kernel
theorem dX8_store_56 : decode cX8_store 56 = .ok (.getfield 27, 3) := by decide +kernel
theorem dX8_store_59 : decode cX8_store 59 = .ok (.bipush 32, 2) := by decide +kernel
theorem dX8_store_61 : decode cX8_store 61 = .ok (.iload_n 2, 1) := by decide +kernel
theorem dX8_store_62 : decode cX8_store 62 = .ok (.iadd, 1) := by decide +kernel
theorem dX8_store_63 : decode cX8_store 63 = .ok (.aload_n 0, 1) := by decide +kernel
theorem dX8_store_64 : decode cX8_store 64 = .ok (.getfield 14, 3) := by decide +kernel
theorem dX8_store_67 : decode cX8_store 67 = .ok (.iconst 0, 1) := by decide +kernel
theorem dX8_store_68 : decode cX8_store 68 = .ok (.invokevirtual 99, 3) := by decide +kernel
theorem dX8_store_71 : decode cX8_store 71 = .ok (.aload_n 0, 1) := by decide +kernel
theorem dX8_store_72 : decode cX8_store 72 = .ok (.invokevirtual 54, 3) := by decide +kernel
theorem dX8_store_75 : decode cX8_store 75 = .ok (.return_, 1) := by decide +kernel
theorem dX8_nextBlank_0 : decode cX8_nextBlank 0 = .ok (.aload_n 0, 1) := by decide +kernel
theorem dX8_nextBlank_1 : decode cX8_nextBlank 1 = .ok (.getfield 20, 3) := by decide +kernel
theorem dX8_nextBlank_4 : decode cX8_nextBlank 4 = .ok (.iconst 1, 1) := by decide +kernel
theorem dX8_nextBlank_5 : decode cX8_nextBlank 5 = .ok (.iadd, 1) := by decide +kernel
theorem dX8_nextBlank_6 : decode cX8_nextBlank 6 = .ok (.istore_n 2, 1) := by decide +kernel
theorem dX8_nextBlank_7 : decode cX8_nextBlank 7 = .ok (.iload_n 2, 1) := by decide +kernel
theorem dX8_nextBlank_8 : decode cX8_nextBlank 8 = .ok (.iload_n 1, 1) := by decide +kernel
theorem dX8_nextBlank_9 : decode cX8_nextBlank 9 = .ok (.iconst 1, 1) := by decide +kernel
theorem dX8_nextBlank_10 : decode cX8_nextBlank 10 = .ok (.iadd, 1) := by decide +kernel
theorem dX8_nextBlank_11 : decode cX8_nextBlank 11 = .ok (.iconst 4, 1) := by decide +kernel
theorem dX8_nextBlank_12 : decode cX8_nextBlank 12 = .ok (.imul, 1) := by decide +kernel
theorem dX8_nextBlank_13 : decode cX8_nextBlank 13 = .ok (.if_icmp .ge 25, 3) := by decide +kernel
theorem dX8_nextBlank_16 : decode cX8_nextBlank 16 = .ok (.aload_n 0, 1) := by decide +kernel
theorem dX8_nextBlank_17 : decode cX8_nextBlank 17 = .ok (.getfield 27, 3) := by decide +kernel
theorem dX8_nextBlank_20 : decode cX8_nextBlank 20 = .ok (.bipush 32, 2) := by decide +kernel
theorem dX8_nextBlank_22 : decode cX8_nextBlank 22 = .ok (.iload_n 2, 1) := by decide +kernel
theorem dX8_nextBlank_23 : decode cX8_nextBlank 23 = .ok (.iadd, 1) := by decide +kernel
theorem dX8_nextBlank_24 : decode cX8_nextBlank 24 = .ok (.invokevirtual 102, 3) := by decide +kernel
theorem dX8_nextBlank_27 : decode cX8_nextBlank 27 = .ok (.ifCond .eq 5, 3) := by decide +kernel
theorem dX8_nextBlank_30 : decode cX8_nextBlank 30 = .ok (.iload_n 2, 1) := by decide +kernel
theorem dX8_nextBlank_31 : decode cX8_nextBlank 31 = .ok (.ireturn, 1) := by decide +kernel
theorem dX8_nextBlank_32 : decode cX8_nextBlank 32 = .ok (.iinc 2 1, 3) := by decide +kernel
theorem dX8_nextBlank_35 : decode cX8_nextBlank 35 = .ok (.goto (-28), 3) := by decide +kernel
theorem dX8_nextBlank_38 : decode cX8_nextBlank 38 = .ok (.iconst (-1), 1) := by decide +kernel
theorem dX8_nextBlank_39 : decode cX8_nextBlank 39 = .ok (.ireturn, 1) := by decide +kernel
theorem dX8_compose_0 : decode cX8_compose 0 = .ok (.aload_n 0, 1) := by decide +kernel
theorem dX8_compose_1 : decode cX8_compose 1 = .ok (.getfield 14, 3) := by decide +kernel
theorem dX8_compose_4 : decode cX8_compose 4 = .ok (.invokevirtual 106, 3) := by decide +kernel
theorem dX8_compose_7 : decode cX8_compose 7 = .ok (.aload_n 0, 1) := by decide +kernel
theorem dX8_compose_8 : decode cX8_compose 8 = .ok (.getfield 14, 3) := by decide +kernel
theorem dX8_compose_11 : decode cX8_compose 11 = .ok (.iload_n 1, 1) := by decide +kernel
theorem dX8_compose_12 : decode cX8_compose 12 = .ok (.i2l, 1) := by decide +kernel
theorem dX8_compose_13 : decode cX8_compose 13 = .ok (.iconst 4, 1) := by decide +kernel
theorem dX8_compose_14 : decode cX8_compose 14 = .ok (.invokevirtual 109, 3) := by decide +kernel
theorem dX8_compose_17 : decode cX8_compose 17 = .ok (.aload_n 0, 1) := by decide +kernel
theorem dX8_compose_18 : decode cX8_compose 18 = .ok (.getfield 14, 3) := by decide +kernel
theorem dX8_compose_21 : decode cX8_compose 21 = .ok (.aload_n 0, 1) := by decide +kernel
theorem dX8_compose_22 : decode cX8_compose 22 = .ok (.getfield 57, 3) := by decide +kernel
theorem dX8_compose_25 : decode cX8_compose 25 = .ok (.i2l, 1) := by decide +kernel
theorem dX8_compose_26 : decode cX8_compose 26 = .ok (.iconst 1, 1) := by decide +kernel
theorem dX8_compose_27 : decode cX8_compose 27 = .ok (.invokevirtual 109, 3) := by decide +kernel
theorem dX8_compose_30 : decode cX8_compose 30 = .ok (.aload_n 0, 1) := by decide +kernel
theorem dX8_compose_31 : decode cX8_compose 31 = .ok (.getfield 14, 3) := by decide +kernel
theorem dX8_compose_34 : decode cX8_compose 34 = .ok (.aload_n 0, 1) := by decide +kernel
theorem dX8_compose_35 : decode cX8_compose 35 = .ok (.getfield 60, 3) := by decide +kernel
theorem dX8_compose_38 : decode cX8_compose 38 = .ok (.i2l, 1) := by decide +kernel
theorem dX8_compose_39 : decode cX8_compose 39 = .ok (.iconst 2, 1) := by decide +kernel
theorem dX8_compose_40 : decode cX8_compose 40 = .ok (.invokevirtual 109, 3) := by decide +kernel
theorem dX8_compose_43 : decode cX8_compose 43 = .ok (.aload_n 0, 1) := by decide +kernel
theorem dX8_compose_44 : decode cX8_compose 44 = .ok (.getfield 14, 3) := by decide +kernel
theorem dX8_compose_47 : decode cX8_compose 47 = .ok (.aload_n 0, 1) := by decide +kernel
theorem dX8_compose_48 : decode cX8_compose 48 = .ok (.getfield 63, 3) := by decide +kernel
theorem dX8_compose_51 : decode cX8_compose 51 = .ok (.i2l, 1) := by decide +kernel
theorem dX8_compose_52 : decode cX8_compose 52 = .ok (.iconst 2, 1) := by decide +kernel
theorem dX8_compose_53 : decode cX8_compose 53 = .ok (.invokevirtual 109, 3) := by decide +kernel
theorem dX8_compose_56 : decode cX8_compose 56 = .ok (.aload_n 0, 1) := by decide +kernel
theorem dX8_compose_57 : decode cX8_compose 57 = .ok (.getfield 14, 3) := by decide +kernel
theorem dX8_compose_60 : decode cX8_compose 60 = .ok (.aload_n 0, 1) := by decide +kernel
theorem dX8_compose_61 : decode cX8_compose 61 = .ok (.getfield 66, 3) := by decide +kernel
theorem dX8_compose_64 : decode cX8_compose 64 = .ok (.bipush 6, 2) := by decide +kernel
theorem dX8_compose_66 : decode cX8_compose 66 = .ok (.invokevirtual 109, 3) := by decide +kernel
theorem dX8_compose_69 : decode cX8_compose 69 = .ok (.aload_n 0, 1) := by decide +kernel
theorem dX8_compose_70 : decode cX8_compose 70 = .ok (.getfield 14, 3) := by decide +kernel
theorem dX8_compose_73 : decode cX8_compose 73 = .ok (.aload_n 0, 1) := by decide +kernel
theorem dX8_compose_74 : decode cX8_compose 74 = .ok (.getfield 73, 3) := by decide +kernel
theorem dX8_compose_77 : decode cX8_compose 77 = .ok (.i2l, 1) := by decide +kernel
theorem dX8_compose_78 : decode cX8_compose 78 = .ok (.iconst 1, 1) := by decide +kernel
theorem dX8_compose_79 : decode cX8_compose 79 = .ok (.invokevirtual 109, 3) := by decide +kernel
theorem dX8_compose_82 : decode cX8_compose 82 = .ok (.aload_n 0, 1) := by decide +kernel
theorem dX8_compose_83 : decode cX8_compose 83 = .ok (.getfield 14, 3) := by decide +kernel
theorem dX8_compose_86 : decode cX8_compose 86 = .ok (.aload_n 0, 1) := by decide +kernel
theorem dX8_compose_87 : decode cX8_compose 87 = .ok (.getfield 76, 3) := by decide +kernel
theorem dX8_compose_90 : decode cX8_compose 90 = .ok (.i2l, 1) := by decide +kernel
theorem dX8_compose_91 : decode cX8_compose 91 = .ok (.iconst 2, 1) := by decide +kernel
theorem dX8_compose_92 : decode cX8_compose 92 = .ok (.invokevirtual 109, 3) := by decide +kernel
theorem dX8_compose_95 : decode cX8_compose 95 = .ok (.aload_n 0, 1) := by decide +kernel
theorem dX8_compose_96 : decode cX8_compose 96 = .ok (.getfield 14, 3) := by decide +kernel
theorem dX8_compose_99 : decode cX8_compose 99 = .ok (.aload_n 0, 1) := by decide +kernel
theorem dX8_compose_100 : decode cX8_compose 100 = .ok (.getfield 79, 3) := by decide +kernel
theorem dX8_compose_103 : decode cX8_compose 103 = .ok (.i2l, 1) := by decide +kernel
theorem dX8_compose_104 : decode cX8_compose 104 = .ok (.iconst 2, 1) := by decide +kernel
theorem dX8_compose_105 : decode cX8_compose 105 = .ok (.invokevirtual 109, 3) := by decide +kernel
theorem dX8_compose_108 : decode cX8_compose 108 = .ok (.aload_n 0, 1) := by decide +kernel
theorem dX8_compose_109 : decode cX8_compose 109 = .ok (.getfield 14, 3) := by decide +kernel
theorem dX8_compose_112 : decode cX8_compose 112 = .ok (.aload_n 0, 1) := by decide +kernel
theorem dX8_compose_113 : decode cX8_compose 113 = .ok (.getfield 82, 3) := by decide +kernel
theorem dX8_compose_116 : decode cX8_compose 116 = .ok (.bipush 6, 2) := by decide +kernel
theorem dX8_compose_118 : decode cX8_compose 118 = .ok (.invokevirtual 109, 3) := by decide +kernel
theorem dX8_compose_121 : decode cX8_compose 121 = .ok (.aload_n 0, 1) := by decide +kernel
theorem dX8_compose_122 : decode cX8_compose 122 = .ok (.getfield 14, 3) := by decide +kernel
theorem dX8_compose_125 : decode cX8_compose 125 = .ok (.lconst 0, 1) := by decide +kernel
theorem dX8_compose_126 : decode cX8_compose 126 = .ok (.iconst 2, 1) := by decide +kernel
theorem dX8_compose_127 : decode cX8_compose 127 = .ok (.invokevirtual 109, 3) := by decide +kernel
theorem dX8_compose_130 : decode cX8_compose 130 = .ok (.aload_n 0, 1) := by decide +kernel
theorem dX8_compose_131 : decode cX8_compose 131 = .ok (.getfield 14, 3) := by decide +kernel
theorem dX8_compose_134 : decode cX8_compose 134 = .ok (.aload_n 0, 1) := by decide +kernel
theorem dX8_compose_135 : decode cX8_compose 135 = .ok (.getfield 14, 3) := by decide +kernel
theorem dX8_compose_138 : decode cX8_compose 138 = .ok (.iconst 0, 1) := by decide +kernel
theorem dX8_compose_139 : decode cX8_compose 139 = .ok (.bipush 28, 2) := by decide +kernel
theorem dX8_compose_141 : decode cX8_compose 141 = .ok (.invokevirtual 113, 3) := by decide +kernel
theorem dX8_compose_144 : decode cX8_compose 144 = .ok (.invokestatic 115, 3) := by decide +kernel
theorem dX8_compose_147 : decode cX8_compose 147 = .ok (.iconst 4, 1) := by decide +kernel
theorem dX8_compose_148 : decode cX8_compose 148 = .ok (.invokevirtual 109, 3) := by decide +kernel
theorem dX8_compose_151 : decode cX8_compose 151 = .ok (.return_, 1) := by decide +kernel
theorem dX8_look_0 : decode cX8_look 0 = .ok (.aload_n 0, 1) := by decide +kernel
theorem dX8_look_1 : decode cX8_look 1 = .ok (.invokevirtual 44, 3) := by decide +kernel
theorem dX8_look_4 : decode cX8_look 4 = .ok (.iconst 0, 1) := by decide +kernel
theorem dX8_look_5 : decode cX8_look 5 = .ok (.istore_n 1, 1) := by decide +kernel
theorem dX8_look_6 : decode cX8_look 6 = .ok (.iload_n 1, 1) := by decide +kernel
theorem dX8_look_7 : decode cX8_look 7 = .ok (.bipush 8, 2) := by decide +kernel
theorem dX8_look_9 : decode cX8_look 9 = .ok (.if_icmp .ge 67, 3) := by decide +kernel
theorem dX8_look_12 : decode cX8_look 12 = .ok (.bipush 32, 2) := by decide +kernel
theorem dX8_look_14 : decode cX8_look 14 = .ok (.iload_n 1, 1) := by decide +kernel
theorem dX8_look_15 : decode cX8_look 15 = .ok (.iadd, 1) := by decide +kernel
theorem dX8_look_16 : decode cX8_look 16 = .ok (.bipush 32, 2) := by decide +kernel
theorem dX8_look_18 : decode cX8_look 18 = .ok (.imul, 1) := by decide +kernel
theorem dX8_look_19 : decode cX8_look 19 = .ok (.istore_n 2, 1) := by decide +kernel
theorem dX8_look_20 : decode cX8_look 20 = .ok (.aload_n 0, 1) := by decide +kernel
theorem dX8_look_21 : decode cX8_look 21 = .ok (.getfield 27, 3) := by decide +kernel
theorem dX8_look_24 : decode cX8_look 24 = .ok (.getfield 119, 3) := by decide +kernel
theorem dX8_look_27 : decode cX8_look 27 = .ok (.iload_n 2, 1) := by decide +kernel
theorem dX8_look_28 : decode cX8_look 28 = .ok (.iconst 4, 1) := by decide +kernel
theorem dX8_look_29 : decode cX8_look 29 = .ok (.invokevirtual 122, 3) := by decide +kernel
theorem dX8_look_32 : decode cX8_look 32 = .ok (.lstore_n 3, 1) := by decide +kernel
theorem dX8_look_33 : decode cX8_look 33 = .ok (.lload_n 3, 1) := by decide +kernel
theorem dX8_look_34 : decode cX8_look 34 = .ok (.aload_n 0, 1) := by decide +kernel
theorem dX8_look_35 : decode cX8_look 35 = .ok (.getfield 24, 3) := by decide +kernel
theorem dX8_look_38 : decode cX8_look 38 = .ok (.i2l, 1) := by decide +kernel
theorem dX8_look_39 : decode cX8_look 39 = .ok (.lcmp, 1) := by decide +kernel
theorem dX8_look_40 : decode cX8_look 40 = .ok (.ifCond .le 30, 3) := by decide +kernel
theorem dX8_look_43 : decode cX8_look 43 = .ok (.lload_n 3, 1) := by decide +kernel
theorem dX8_look_44 : decode cX8_look 44 = .ok (.ldc2_w 124, 3) := by decide +kernel
theorem dX8_look_47 : decode cX8_look 47 = .ok (.lcmp, 1) := by decide +kernel
theorem dX8_look_48 : decode cX8_look 48 = .ok (.ifCond .gt 22, 3) := by decide +kernel
theorem dX8_look_51 : decode cX8_look 51 = .ok (.aload_n 0, 1) := by decide +kernel
theorem dX8_look_52 : decode cX8_look 52 = .ok (.iload_n 2, 1) := by decide +kernel
theorem dX8_look_53 : decode cX8_look 53 = .ok (.invokevirtual 126, 3) := by decide +kernel
theorem dX8_look_56 : decode cX8_look 56 = .ok (.ifCond .eq 14, 3) := by decide +kernel
theorem dX8_look_59 : decode cX8_look 59 = .ok (.aload_n 0, 1) := by decide +kernel
theorem dX8_look_60 : decode cX8_look 60 = .ok (.iload_n 1, 1) := by decide +kernel
theorem dX8_look_61 : decode cX8_look 61 = .ok (.putfield 20, 3) := by decide +kernel
theorem dX8_look_64 : decode cX8_look 64 = .ok (.aload_n 0, 1) := by decide +kernel
theorem dX8_look_65 : decode cX8_look 65 = .ok (.lload_n 3, 1) := by decide +kernel
theorem dX8_look_66 : decode cX8_look 66 = .ok (.l2i, 1) := by decide +kernel
theorem dX8_look_67 : decode cX8_look 67 = .ok (.putfield 24, 3) := by decide +kernel
theorem dX8_look_70 : decode cX8_look 70 = .ok (.iinc 1 1, 3) := by decide +kernel
theorem dX8_look_73 : decode cX8_look 73 = .ok (.goto (-67), 3) := by decide +kernel
theorem dX8_look_76 : decode cX8_look 76 = .ok (.aload_n 0, 1) := by decide +kernel
theorem dX8_look_77 : decode cX8_look 77 = .ok (.getfield 20, 3) := by decide +kernel
theorem dX8_look_80 : decode cX8_look 80 = .ok (.ifCond .lt 17, 3) := by decide +kernel
theorem dX8_look_83 : decode cX8_look 83 = .ok (.aload_n 0, 1) := by decide +kernel
theorem dX8_look_84 : decode cX8_look 84 = .ok (.bipush 32, 2) := by decide +kernel
theorem dX8_look_86 : decode cX8_look 86 = .ok (.aload_n 0, 1) := by decide +kernel
theorem dX8_look_87 : decode cX8_look 87 = .ok (.getfield 20, 3) := by decide +kernel
theorem dX8_look_90 : decode cX8_look 90 = .ok (.iadd, 1) := by decide +kernel
theorem dX8_look_91 : decode cX8_look 91 = .ok (.bipush 32, 2) := by decide +kernel
theorem dX8_look_93 : decode cX8_look 93 = .ok (.imul, 1) := by decide +kernel
theorem dX8_look_94 : decode cX8_look 94 = .ok (.invokevirtual 129, 3) := by decide +kernel
theorem dX8_look_97 : decode cX8_look 97 = .ok (.return_, 1) := by decide +kernel
theorem dX8_fits_0 : decode cX8_fits 0 = .ok (.aload_n 0, 1) := by decide +kernel
theorem dX8_fits_1 : decode cX8_fits 1 = .ok (.getfield 27, 3) := by decide +kernel
theorem dX8_fits_4 : decode cX8_fits 4 = .ok (.getfield 119, 3) := by decide +kernel
theorem dX8_fits_7 : decode cX8_fits 7 = .ok (.astore_n 2, 1) := by decide +kernel
theorem dX8_fits_8 : decode cX8_fits 8 = .ok (.aload_n 2, 1) := by decide +kernel
theorem dX8_fits_9 : decode cX8_fits 9 = .ok (.iload_n 1, 1) := by decide +kernel
theorem dX8_fits_10 : decode cX8_fits 10 = .ok (.bipush 28, 2) := by decide +kernel
theorem dX8_fits_12 : decode cX8_fits 12 = .ok (.invokevirtual 113, 3) := by decide +kernel
theorem dX8_fits_15 : decode cX8_fits 15 = .ok (.invokestatic 115, 3) := by decide +kernel
theorem dX8_fits_18 : decode cX8_fits 18 = .ok (.aload_n 2, 1) := by decide +kernel
theorem dX8_fits_19 : decode cX8_fits 19 = .ok (.iload_n 1, 1) := by decide +kernel
theorem dX8_fits_20 : decode cX8_fits 20 = .ok (.bipush 28, 2) := by decide +kernel
theorem dX8_fits_22 : decode cX8_fits 22 = .ok (.iadd, 1) := by decide +kernel
theorem dX8_fits_23 : decode cX8_fits 23 = .ok (.iconst 4, 1) := by decide +kernel
theorem dX8_fits_24 : decode cX8_fits 24 = .ok (.invokevirtual 122, 3) := by decide +kernel
theorem dX8_fits_27 : decode cX8_fits 27 = .ok (.lcmp, 1) := by decide +kernel
theorem dX8_fits_28 : decode cX8_fits 28 = .ok (.ifCond .eq 5, 3) := by decide +kernel
theorem dX8_fits_31 : decode cX8_fits 31 = .ok (.iconst 0, 1) := by decide +kernel
theorem dX8_fits_32 : decode cX8_fits 32 = .ok (.ireturn, 1) := by decide +kernel
theorem dX8_fits_33 : decode cX8_fits 33 = .ok (.aload_n 2, 1) := by decide +kernel
theorem dX8_fits_34 : decode cX8_fits 34 = .ok (.iload_n 1, 1) := by decide +kernel
theorem dX8_fits_35 : decode cX8_fits 35 = .ok (.bipush 15, 2) := by decide +kernel
theorem dX8_fits_37 : decode cX8_fits 37 = .ok (.iadd, 1) := by decide +kernel
theorem dX8_fits_38 : decode cX8_fits 38 = .ok (.invokevirtual 132, 3) := by decide +kernel
theorem dX8_fits_41 : decode cX8_fits 41 = .ok (.istore_n 3, 1) := by decide +kernel
theorem dX8_fits_42 : decode cX8_fits 42 = .ok (.aload_n 2, 1) := by decide +kernel
theorem dX8_fits_43 : decode cX8_fits 43 = .ok (.iload_n 1, 1) := by decide +kernel
theorem dX8_fits_44 : decode cX8_fits 44 = .ok (.bipush 16, 2) := by decide +kernel
theorem dX8_fits_46 : decode cX8_fits 46 = .ok (.iadd, 1) := by decide +kernel
theorem dX8_fits_47 : decode cX8_fits 47 = .ok (.iconst 2, 1) := by decide +kernel
theorem dX8_fits_48 : decode cX8_fits 48 = .ok (.invokevirtual 122, 3) := by decide +kernel
theorem dX8_fits_51 : decode cX8_fits 51 = .ok (.lstore 4, 2) := by decide +kernel
theorem dX8_fits_53 : decode cX8_fits 53 = .ok (.aload_n 2, 1) := by decide +kernel
theorem dX8_fits_54 : decode cX8_fits 54 = .ok (.iload_n 1, 1) := by decide +kernel
theorem dX8_fits_55 : decode cX8_fits 55 = .ok (.bipush 18, 2) := by decide +kernel
theorem dX8_fits_57 : decode cX8_fits 57 = .ok (.iadd, 1) := by decide +kernel
theorem dX8_fits_58 : decode cX8_fits 58 = .ok (.iconst 2, 1) := by decide +kernel
theorem dX8_fits_59 : decode cX8_fits 59 = .ok (.invokevirtual 122, 3) := by decide +kernel
theorem dX8_fits_62 : decode cX8_fits 62 = .ok (.lstore 6, 2) := by decide +kernel
theorem dX8_fits_64 : decode cX8_fits 64 = .ok (.iload_n 3, 1) := by decide +kernel
theorem dX8_fits_65 : decode cX8_fits 65 = .ok (.ifCond .ne 18, 3) := by decide +kernel
theorem dX8_fits_68 : decode cX8_fits 68 = .ok (.lload 6, 2) := by decide +kernel
theorem dX8_fits_70 : decode cX8_fits 70 = .ok (.lconst 0, 1) := by decide +kernel
theorem dX8_fits_71 : decode cX8_fits 71 = .ok (.lcmp, 1) := by decide +kernel
theorem dX8_fits_72 : decode cX8_fits 72 = .ok (.ifCond .ne 7, 3) := by decide +kernel
theorem dX8_fits_75 : decode cX8_fits 75 = .ok (.iconst 1, 1) := by decide +kernel
theorem dX8_fits_76 : decode cX8_fits 76 = .ok (.goto 32, 3) := by decide +kernel
theorem dX8_fits_79 : decode cX8_fits 79 = .ok (.iconst 0, 1) := by decide +kernel
theorem dX8_fits_80 : decode cX8_fits 80 = .ok (.goto 28, 3) := by decide +kernel
theorem dX8_fits_83 : decode cX8_fits 83 = .ok (.iload_n 3, 1) := by decide +kernel
theorem dX8_fits_84 : decode cX8_fits 84 = .ok (.iconst 3, 1) := by decide +kernel
theorem dX8_fits_85 : decode cX8_fits 85 = .ok (.if_icmp .gt 22, 3) := by decide +kernel
theorem dX8_fits_88 : decode cX8_fits 88 = .ok (.lload 4, 2) := by decide +kernel
theorem dX8_fits_90 : decode cX8_fits 90 = .ok (.lconst 0, 1) := by decide +kernel
theorem dX8_fits_91 : decode cX8_fits 91 = .ok (.lcmp, 1) := by decide +kernel
theorem dX8_fits_92 : decode cX8_fits 92 = .ok (.ifCond .le 15, 3) := by decide +kernel
theorem dX8_fits_95 : decode cX8_fits 95 = .ok (.lload 6, 2) := by decide +kernel
theorem dX8_fits_97 : decode cX8_fits 97 = .ok (.invokestatic 135, 3) := by decide +kernel
theorem dX8_fits_100 : decode cX8_fits 100 = .ok (.ifCond .eq 7, 3) := by decide +kernel
theorem dX8_fits_103 : decode cX8_fits 103 = .ok (.iconst 1, 1) := by decide +kernel
theorem dX8_fits_104 : decode cX8_fits 104 = .ok (.goto 4, 3) := by decide +kernel
theorem dX8_fits_107 : decode cX8_fits 107 = .ok (.iconst 0, 1) := by decide +kernel
theorem dX8_fits_108 : decode cX8_fits 108 = .ok (.istore 8, 2) := by decide +kernel
theorem dX8_fits_110 : decode cX8_fits 110 = .ok (.iload 8, 2) := by decide +kernel
theorem dX8_fits_112 : decode cX8_fits 112 = .ok (.ifCond .eq 46, 3) := by decide +kernel
theorem dX8_fits_115 : decode cX8_fits 115 = .ok (.aload_n 2, 1) := by decide +kernel
theorem dX8_fits_116 : decode cX8_fits 116 = .ok (.iload_n 1, 1) := by decide +kernel
theorem dX8_fits_117 : decode cX8_fits 117 = .ok (.iconst 4, 1) := by decide +kernel
theorem dX8_fits_118 : decode cX8_fits 118 = .ok (.iadd, 1) := by decide +kernel
theorem dX8_fits_119 : decode cX8_fits 119 = .ok (.invokevirtual 132, 3) := by decide +kernel
theorem dX8_fits_122 : decode cX8_fits 122 = .ok (.iconst 1, 1) := by decide +kernel
theorem dX8_fits_123 : decode cX8_fits 123 = .ok (.if_icmp .gt 35, 3) := by decide +kernel
theorem dX8_fits_126 : decode cX8_fits 126 = .ok (.aload_n 2, 1) := by decide +kernel
theorem dX8_fits_127 : decode cX8_fits 127 = .ok (.iload_n 1, 1) := by decide +kernel
theorem dX8_fits_128 : decode cX8_fits 128 = .ok (.iconst 5, 1) := by decide +kernel
theorem dX8_fits_129 : decode cX8_fits 129 = .ok (.iadd, 1) := by decide +kernel
theorem dX8_fits_130 : decode cX8_fits 130 = .ok (.iconst 2, 1) := by decide +kernel
theorem dX8_fits_131 : decode cX8_fits 131 = .ok (.invokevirtual 122, 3) := by decide +kernel
theorem dX8_fits_134 : decode cX8_fits 134 = .ok (.lconst 0, 1) := by decide +kernel
theorem dX8_fits_135 : decode cX8_fits 135 = .ok (.lcmp, 1) := by decide +kernel
theorem dX8_fits_136 : decode cX8_fits 136 = .ok (.ifCond .le 22, 3) := by decide +kernel
theorem dX8_fits_139 : decode cX8_fits 139 = .ok (.aload_n 2, 1) := by decide +kernel
theorem dX8_fits_140 : decode cX8_fits 140 = .ok (.iload_n 1, 1) := by decide +kernel
theorem dX8_fits_141 : decode cX8_fits 141 = .ok (.bipush 7, 2) := by decide +kernel
theorem dX8_fits_143 : decode cX8_fits 143 = .ok (.iadd, 1) := by decide +kernel
theorem dX8_fits_144 : decode cX8_fits 144 = .ok (.iconst 2, 1) := by decide +kernel
theorem dX8_fits_145 : decode cX8_fits 145 = .ok (.invokevirtual 122, 3) := by decide +kernel
theorem dX8_fits_148 : decode cX8_fits 148 = .ok (.invokestatic 135, 3) := by decide +kernel
theorem dX8_fits_151 : decode cX8_fits 151 = .ok (.ifCond .eq 7, 3) := by decide +kernel
theorem dX8_fits_154 : decode cX8_fits 154 = .ok (.iconst 1, 1) := by decide +kernel
theorem dX8_fits_155 : decode cX8_fits 155 = .ok (.goto 4, 3) := by decide +kernel
theorem dX8_fits_158 : decode cX8_fits 158 = .ok (.iconst 0, 1) := by decide +kernel
theorem dX8_fits_159 : decode cX8_fits 159 = .ok (.ireturn, 1) := by decide +kernel
theorem dX8_isProgramLength_0 : decode cX8_isProgramLength 0 = .ok (.lload_n 0, 1) := by decide +kernel
theorem dX8_isProgramLength_1 : decode cX8_isProgramLength 1 = .ok (.lconst 1, 1) := by decide +kernel
theorem dX8_isProgramLength_2 : decode cX8_isProgramLength 2 = .ok (.lcmp, 1) := by decide +kernel
theorem dX8_isProgramLength_3 : decode cX8_isProgramLength 3 = .ok (.ifCond .lt 15, 3) := by decide +kernel
theorem dX8_isProgramLength_6 : decode cX8_isProgramLength 6 = .ok (.lload_n 0, 1) := by decide +kernel
theorem dX8_isProgramLength_7 : decode cX8_isProgramLength 7 = .ok (.ldc2_w 139, 3) := by decide +kernel
theorem dX8_isProgramLength_10 : decode cX8_isProgramLength 10 = .ok (.lcmp, 1) := by decide +kernel
theorem dX8_isProgramLength_11 : decode cX8_isProgramLength 11 = .ok (.ifCond .gt 7, 3) := by decide +kernel
theorem dX8_isProgramLength_14 : decode cX8_isProgramLength 14 = .ok (.iconst 1, 1) := by decide +kernel
theorem dX8_isProgramLength_15 : decode cX8_isProgramLength 15 = .ok (.goto 4, 3) := by decide +kernel
theorem dX8_isProgramLength_18 : decode cX8_isProgramLength 18 = .ok (.iconst 0, 1) := by decide +kernel
theorem dX8_isProgramLength_19 : decode cX8_isProgramLength 19 = .ok (.ireturn, 1) := by decide +kernel
theorem dX8_load_0 : decode cX8_load 0 = .ok (.aload_n 0, 1) := by decide +kernel
theorem dX8_load_1 : decode cX8_load 1 = .ok (.getfield 27, 3) := by decide +kernel
theorem dX8_load_4 : decode cX8_load 4 = .ok (.getfield 119, 3) := by decide +kernel
theorem dX8_load_7 : decode cX8_load 7 = .ok (.astore_n 2, 1) := by decide +kernel
theorem dX8_load_8 : decode cX8_load 8 = .ok (.aload_n 0, 1) := by decide +kernel
theorem dX8_load_9 : decode cX8_load 9 = .ok (.aload_n 2, 1) := by decide +kernel
theorem dX8_load_10 : decode cX8_load 10 = .ok (.iload_n 1, 1) := by decide +kernel
theorem dX8_load_11 : decode cX8_load 11 = .ok (.iconst 4, 1) := by decide +kernel
theorem dX8_load_12 : decode cX8_load 12 = .ok (.iadd, 1) := by decide +kernel
theorem dX8_load_13 : decode cX8_load 13 = .ok (.invokevirtual 132, 3) := by decide +kernel
theorem dX8_load_16 : decode cX8_load 16 = .ok (.putfield 57, 3) := by decide +kernel
theorem dX8_load_19 : decode cX8_load 19 = .ok (.aload_n 0, 1) := by decide +kernel
theorem dX8_load_20 : decode cX8_load 20 = .ok (.aload_n 2, 1) := by decide +kernel
theorem dX8_load_21 : decode cX8_load 21 = .ok (.iload_n 1, 1) := by decide +kernel
theorem dX8_load_22 : decode cX8_load 22 = .ok (.iconst 5, 1) := by decide +kernel
theorem dX8_load_23 : decode cX8_load 23 = .ok (.iadd, 1) := by decide +kernel
theorem dX8_load_24 : decode cX8_load 24 = .ok (.iconst 2, 1) := by decide +kernel
theorem dX8_load_25 : decode cX8_load 25 = .ok (.invokevirtual 122, 3) := by decide +kernel
theorem dX8_load_28 : decode cX8_load 28 = .ok (.l2i, 1) := by decide +kernel
theorem dX8_load_29 : decode cX8_load 29 = .ok (.putfield 60, 3) := by decide +kernel
theorem dX8_load_32 : decode cX8_load 32 = .ok (.aload_n 0, 1) := by decide +kernel
theorem dX8_load_33 : decode cX8_load 33 = .ok (.aload_n 2, 1) := by decide +kernel
theorem dX8_load_34 : decode cX8_load 34 = .ok (.iload_n 1, 1) := by decide +kernel
theorem dX8_load_35 : decode cX8_load 35 = .ok (.bipush 7, 2) := by decide +kernel
theorem dX8_load_37 : decode cX8_load 37 = .ok (.iadd, 1) := by decide +kernel
theorem dX8_load_38 : decode cX8_load 38 = .ok (.iconst 2, 1) := by decide +kernel
theorem dX8_load_39 : decode cX8_load 39 = .ok (.invokevirtual 122, 3) := by decide +kernel
theorem dX8_load_42 : decode cX8_load 42 = .ok (.l2i, 1) := by decide +kernel
theorem dX8_load_43 : decode cX8_load 43 = .ok (.putfield 63, 3) := by decide +kernel
theorem dX8_load_46 : decode cX8_load 46 = .ok (.aload_n 0, 1) := by decide +kernel
theorem dX8_load_47 : decode cX8_load 47 = .ok (.aload_n 2, 1) := by decide +kernel
theorem dX8_load_48 : decode cX8_load 48 = .ok (.iload_n 1, 1) := by decide +kernel
theorem dX8_load_49 : decode cX8_load 49 = .ok (.bipush 9, 2) := by decide +kernel
theorem dX8_load_51 : decode cX8_load 51 = .ok (.iadd, 1) := by decide +kernel
theorem dX8_load_52 : decode cX8_load 52 = .ok (.bipush 6, 2) := by decide +kernel
theorem dX8_load_54 : decode cX8_load 54 = .ok (.invokevirtual 122, 3) := by decide +kernel
theorem dX8_load_57 : decode cX8_load 57 = .ok (.putfield 66, 3) := by decide +kernel
theorem dX8_load_60 : decode cX8_load 60 = .ok (.aload_n 0, 1) := by decide +kernel
theorem dX8_load_61 : decode cX8_load 61 = .ok (.aload_n 2, 1) := by decide +kernel
theorem dX8_load_62 : decode cX8_load 62 = .ok (.iload_n 1, 1) := by decide +kernel
theorem dX8_load_63 : decode cX8_load 63 = .ok (.bipush 15, 2) := by decide +kernel
theorem dX8_load_65 : decode cX8_load 65 = .ok (.iadd, 1) := by decide +kernel
theorem dX8_load_66 : decode cX8_load 66 = .ok (.invokevirtual 132, 3) := by decide +kernel
theorem dX8_load_69 : decode cX8_load 69 = .ok (.putfield 73, 3) := by decide +kernel
theorem dX8_load_72 : decode cX8_load 72 = .ok (.aload_n 0, 1) := by decide +kernel
theorem dX8_load_73 : decode cX8_load 73 = .ok (.aload_n 2, 1) := by decide +kernel
theorem dX8_load_74 : decode cX8_load 74 = .ok (.iload_n 1, 1) := by decide +kernel
theorem dX8_load_75 : decode cX8_load 75 = .ok (.bipush 16, 2) := by decide +kernel
theorem dX8_load_77 : decode cX8_load 77 = .ok (.iadd, 1) := by decide +kernel
theorem dX8_load_78 : decode cX8_load 78 = .ok (.iconst 2, 1) := by decide +kernel
theorem dX8_load_79 : decode cX8_load 79 = .ok (.invokevirtual 122, 3) := by decide +kernel
theorem dX8_load_82 : decode cX8_load 82 = .ok (.l2i, 1) := by decide +kernel
theorem dX8_load_83 : decode cX8_load 83 = .ok (.putfield 76, 3) := by decide +kernel
theorem dX8_load_86 : decode cX8_load 86 = .ok (.aload_n 0, 1) := by decide +kernel
theorem dX8_load_87 : decode cX8_load 87 = .ok (.aload_n 2, 1) := by decide +kernel
theorem dX8_load_88 : decode cX8_load 88 = .ok (.iload_n 1, 1) := by decide +kernel
theorem dX8_load_89 : decode cX8_load 89 = .ok (.bipush 18, 2) := by decide +kernel
theorem dX8_load_91 : decode cX8_load 91 = .ok (.iadd, 1) := by decide +kernel
theorem dX8_load_92 : decode cX8_load 92 = .ok (.iconst 2, 1) := by decide +kernel
theorem dX8_load_93 : decode cX8_load 93 = .ok (.invokevirtual 122, 3) := by decide +kernel
theorem dX8_load_96 : decode cX8_load 96 = .ok (.l2i, 1) := by decide +kernel
theorem dX8_load_97 : decode cX8_load 97 = .ok (.putfield 79, 3) := by decide +kernel
theorem dX8_load_100 : decode cX8_load 100 = .ok (.aload_n 0, 1) := by decide +kernel
theorem dX8_load_101 : decode cX8_load 101 = .ok (.aload_n 2, 1) := by decide +kernel
theorem dX8_load_102 : decode cX8_load 102 = .ok (.iload_n 1, 1) := by decide +kernel
theorem dX8_load_103 : decode cX8_load 103 = .ok (.bipush 20, 2) := by decide +kernel
theorem dX8_load_105 : decode cX8_load 105 = .ok (.iadd, 1) := by decide +kernel
theorem dX8_load_106 : decode cX8_load 106 = .ok (.bipush 6, 2) := by decide +kernel
theorem dX8_load_108 : decode cX8_load 108 = .ok (.invokevirtual 122, 3) := by decide +kernel
theorem dX8_load_111 : decode cX8_load 111 = .ok (.putfield 82, 3) := by decide +kernel
theorem dX8_load_114 : decode cX8_load 114 = .ok (.return_, 1) := by decide +kernel
theorem dX8_tell_0 : decode cX8_tell 0 = .ok (.iload_n 1, 1) := by decide +kernel
theorem dX8_tell_1 : decode cX8_tell 1 = .ok (.tableswitch 78 3 9 #[43, 48, 53, 58, 63, 68, 73], 43) := by decide +kernel
theorem dX8_tell_44 : decode cX8_tell 44 = .ok (.aload_n 0, 1) := by decide +kernel
theorem dX8_tell_45 : decode cX8_tell 45 = .ok (.getfield 57, 3) := by decide +kernel
theorem dX8_tell_48 : decode cX8_tell 48 = .ok (.ireturn, 1) := by decide +kernel
theorem dX8_tell_49 : decode cX8_tell 49 = .ok (.aload_n 0, 1) := by decide +kernel
theorem dX8_tell_50 : decode cX8_tell 50 = .ok (.getfield 60, 3) := by decide +kernel
theorem dX8_tell_53 : decode cX8_tell 53 = .ok (.ireturn, 1) := by decide +kernel
theorem dX8_tell_54 : decode cX8_tell 54 = .ok (.aload_n 0, 1) := by decide +kernel
theorem dX8_tell_55 : decode cX8_tell 55 = .ok (.getfield 63, 3) := by decide +kernel
theorem dX8_tell_58 : decode cX8_tell 58 = .ok (.ireturn, 1) := by decide +kernel
theorem dX8_tell_59 : decode cX8_tell 59 = .ok (.aload_n 0, 1) := by decide +kernel
theorem dX8_tell_60 : decode cX8_tell 60 = .ok (.getfield 73, 3) := by decide +kernel
theorem dX8_tell_63 : decode cX8_tell 63 = .ok (.ireturn, 1) := by decide +kernel
theorem dX8_tell_64 : decode cX8_tell 64 = .ok (.aload_n 0, 1) := by decide +kernel
theorem dX8_tell_65 : decode cX8_tell 65 = .ok (.getfield 76, 3) := by decide +kernel
theorem dX8_tell_68 : decode cX8_tell 68 = .ok (.ireturn, 1) := by decide +kernel
theorem dX8_tell_69 : decode cX8_tell 69 = .ok (.aload_n 0, 1) := by decide +kernel
theorem dX8_tell_70 : decode cX8_tell 70 = .ok (.getfield 79, 3) := by decide +kernel
theorem dX8_tell_73 : decode cX8_tell 73 = .ok (.ireturn, 1) := by decide +kernel
theorem dX8_tell_74 : decode cX8_tell 74 = .ok (.aload_n 0, 1) := by decide +kernel
theorem dX8_tell_75 : decode cX8_tell 75 = .ok (.getfield 24, 3) := by decide +kernel
theorem dX8_tell_78 : decode cX8_tell 78 = .ok (.ireturn, 1) := by decide +kernel
theorem dX8_tell_79 : decode cX8_tell 79 = .ok (.iconst (-1), 1) := by decide +kernel
theorem dX8_tell_80 : decode cX8_tell 80 = .ok (.ireturn, 1) := by decide +kernel
theorem dX9_init_0 : decode cX9_init 0 = .ok (.aload_n 0, 1) := by decide +kernel
theorem dX9_init_1 : decode cX9_init 1 = .ok (.invokespecial 3, 3) := by decide +kernel
theorem dX9_init_4 : decode cX9_init 4 = .ok (.aload_n 0, 1) := by decide +kernel
theorem dX9_init_5 : decode cX9_init 5 = .ok (.new 9, 3) := by decide +kernel
theorem dX9_init_8 : decode cX9_init 8 = .ok (.dup, 1) := by decide +kernel
theorem dX9_init_9 : decode cX9_init 9 = .ok (.invokespecial 11, 3) := by decide +kernel
theorem dX9_init_12 : decode cX9_init 12 = .ok (.putfield 12, 3) := by decide +kernel
theorem dX9_init_15 : decode cX9_init 15 = .ok (.aload_n 0, 1) := by decide +kernel
theorem dX9_init_16 : decode cX9_init 16 = .ok (.new 18, 3) := by decide +kernel
theorem dX9_init_19 : decode cX9_init 19 = .ok (.dup, 1) := by decide +kernel
theorem dX9_init_20 : decode cX9_init 20 = .ok (.iconst 0, 1) := by decide +kernel
theorem dX9_init_21 : decode cX9_init 21 = .ok (.invokespecial 20, 3) := by decide +kernel
theorem dX9_init_24 : decode cX9_init 24 = .ok (.putfield 23, 3) := by decide +kernel
theorem dX9_init_27 : decode cX9_init 27 = .ok (.aload_n 0, 1) := by decide +kernel
theorem dX9_init_28 : decode cX9_init 28 = .ok (.iconst 0, 1) := by decide +kernel
theorem dX9_init_29 : decode cX9_init 29 = .ok (.putfield 27, 3) := by decide +kernel
theorem dX9_init_32 : decode cX9_init 32 = .ok (.aload_n 0, 1) := by decide +kernel
theorem dX9_init_33 : decode cX9_init 33 = .ok (.iconst 0, 1) := by decide +kernel
theorem dX9_init_34 : decode cX9_init 34 = .ok (.putfield 31, 3) := by decide +kernel
theorem dX9_init_37 : decode cX9_init 37 = .ok (.aload_n 0, 1) := by decide +kernel
theorem dX9_init_38 : decode cX9_init 38 = .ok (.iconst 0, 1) := by decide +kernel
theorem dX9_init_39 : decode cX9_init 39 = .ok (.putfield 34, 3) := by decide +kernel
theorem dX9_init_42 : decode cX9_init 42 = .ok (.aload_n 0, 1) := by decide +kernel
theorem dX9_init_43 : decode cX9_init 43 = .ok (.iconst 0, 1) := by decide +kernel
theorem dX9_init_44 : decode cX9_init 44 = .ok (.putfield 37, 3) := by decide +kernel
theorem dX9_init_47 : decode cX9_init 47 = .ok (.aload_n 0, 1) := by decide +kernel
theorem dX9_init_48 : decode cX9_init 48 = .ok (.aload_n 1, 1) := by decide +kernel
theorem dX9_init_49 : decode cX9_init 49 = .ok (.putfield 40, 3) := by decide +kernel
theorem dX9_init_52 : decode cX9_init 52 = .ok (.aload_n 0, 1) := by decide +kernel
theorem dX9_init_53 : decode cX9_init 53 = .ok (.aload_n 2, 1) := by decide +kernel
theorem dX9_init_54 : decode cX9_init 54 = .ok (.putfield 44, 3) := by decide +kernel
theorem dX9_init_57 : decode cX9_init 57 = .ok (.aload_n 0, 1) := by decide +kernel
theorem dX9_init_58 : decode cX9_init 58 = .ok (.aload_n 3, 1) := by decide +kernel
theorem dX9_init_59 : decode cX9_init 59 = .ok (.putfield 48, 3) := by decide +kernel
theorem dX9_init_62 : decode cX9_init 62 = .ok (.aload_n 0, 1) := by decide +kernel
theorem dX9_init_63 : decode cX9_init 63 = .ok (.aload 4, 2) := by decide +kernel
theorem dX9_init_65 : decode cX9_init 65 = .ok (.putfield 52, 3) := by decide +kernel
theorem dX9_init_68 : decode cX9_init 68 = .ok (.return_, 1) := by decide +kernel
theorem dX9_goesOn_0 : decode cX9_goesOn 0 = .ok (.aload_n 0, 1) := by decide +kernel
theorem dX9_goesOn_1 : decode cX9_goesOn 1 = .ok (.getfield 27, 3) := by decide +kernel
theorem dX9_goesOn_4 : decode cX9_goesOn 4 = .ok (.ifCond .eq 7, 3) := by decide +kernel
theorem dX9_goesOn_7 : decode cX9_goesOn 7 = .ok (.iconst 1, 1) := by decide +kernel
theorem dX9_goesOn_8 : decode cX9_goesOn 8 = .ok (.goto 4, 3) := by decide +kernel
theorem dX9_goesOn_11 : decode cX9_goesOn 11 = .ok (.iconst 0, 1) := by decide +kernel
theorem dX9_goesOn_12 : decode cX9_goesOn 12 = .ok (.ireturn, 1) := by decide +kernel
theorem dX9_start_0 : decode cX9_start 0 = .ok (.aload_n 0, 1) := by decide +kernel
theorem dX9_start_1 : decode cX9_start 1 = .ok (.iconst 0, 1) := by decide +kernel
theorem dX9_start_2 : decode cX9_start 2 = .ok (.putfield 37, 3) := by decide +kernel
theorem dX9_start_5 : decode cX9_start 5 = .ok (.aload_n 0, 1) := by decide +kernel
theorem dX9_start_6 : decode cX9_start 6 = .ok (.iload_n 1, 1) := by decide +kernel
theorem dX9_start_7 : decode cX9_start 7 = .ok (.putfield 34, 3) := by decide +kernel
theorem dX9_start_10 : decode cX9_start 10 = .ok (.aload_n 0, 1) := by decide +kernel
theorem dX9_start_11 : decode cX9_start 11 = .ok (.iconst 1, 1) := by decide +kernel
theorem dX9_start_12 : decode cX9_start 12 = .ok (.putfield 27, 3) := by decide +kernel
theorem dX9_start_15 : decode cX9_start 15 = .ok (.aload_n 0, 1) := by decide +kernel
theorem dX9_start_16 : decode cX9_start 16 = .ok (.getfield 27, 3) := by decide +kernel
theorem dX9_start_19 : decode cX9_start 19 = .ok (.ireturn, 1) := by decide +kernel
theorem dX9_giveUp_0 : decode cX9_giveUp 0 = .ok (.aload_n 0, 1) := by decide +kernel
theorem dX9_giveUp_1 : decode cX9_giveUp 1 = .ok (.iconst 0, 1) := by decide +kernel
theorem dX9_giveUp_2 : decode cX9_giveUp 2 = .ok (.putfield 27, 3) := by decide +kernel
theorem dX9_giveUp_5 : decode cX9_giveUp 5 = .ok (.aload_n 0, 1) := by decide +kernel
theorem dX9_giveUp_6 : decode cX9_giveUp 6 = .ok (.iconst 0, 1) := by decide +kernel
theorem dX9_giveUp_7 : decode cX9_giveUp 7 = .ok (.putfield 31, 3) := by decide +kernel
theorem dX9_giveUp_10 : decode cX9_giveUp 10 = .ok (.aload_n 0, 1) := by decide +kernel
theorem dX9_giveUp_11 : decode cX9_giveUp 11 = .ok (.iconst 0, 1) := by decide +kernel
theorem dX9_giveUp_12 : decode cX9_giveUp 12 = .ok (.putfield 34, 3) := by decide +kernel
theorem dX9_giveUp_15 : decode cX9_giveUp 15 = .ok (.return_, 1) := by decide +kernel
theorem dX9_fail_0 : decode cX9_fail 0 = .ok (.aload_n 0, 1) := by decide +kernel
theorem dX9_fail_1 : decode cX9_fail 1 = .ok (.invokevirtual 56, 3) := by decide +kernel
theorem dX9_fail_4 : decode cX9_fail 4 = .ok (.aload_n 0, 1) := by decide +kernel
theorem dX9_fail_5 : decode cX9_fail 5 = .ok (.iload_n 1, 1) := by decide +kernel
theorem dX9_fail_6 : decode cX9_fail 6 = .ok (.putfield 37, 3) := by decide +kernel
theorem dX9_fail_9 : decode cX9_fail 9 = .ok (.bipush (-10), 2) := by decide +kernel
theorem dX9_fail_11 : decode cX9_fail 11 = .ok (.iload_n 1, 1) := by decide +kernel
theorem dX9_fail_12 : decode cX9_fail 12 = .ok (.isub, 1) := by decide +kernel
theorem dX9_fail_13 : decode cX9_fail 13 = .ok (.ireturn, 1) := by decide +kernel
theorem dX9_trustedPaper_0 : decode cX9_trustedPaper 0 = .ok (.aload_n 0, 1) := by decide +kernel
theorem dX9_trustedPaper_1 : decode cX9_trustedPaper 1 = .ok (.getfield 44, 3) := by decide +kernel
theorem dX9_trustedPaper_4 : decode cX9_trustedPaper 4 = .ok (.iload_n 1, 1) := by decide +kernel
theorem dX9_trustedPaper_5 : decode cX9_trustedPaper 5 = .ok (.aaload, 1) := by decide +kernel
theorem dX9_trustedPaper_6 : decode cX9_trustedPaper 6 = .ok (.invokevirtual 59, 3) := by decide +kernel
theorem dX9_trustedPaper_9 : decode cX9_trustedPaper 9 = .ok (.areturn, 1) := by decide +kernel
theorem dX9_wantedVersion_0 : decode cX9_wantedVersion 0 = .ok (.aload_n 0, 1) := by decide +kernel
theorem dX9_wantedVersion_1 : decode cX9_wantedVersion 1 = .ok (.getfield 27, 3) := by decide +kernel
theorem dX9_wantedVersion_4 : decode cX9_wantedVersion 4 = .ok (.tableswitch 73 1 5 #[36, 73, 47, 56, 65], 36) := by decide +kernel
theorem dX9_wantedVersion_40 : decode cX9_wantedVersion 40 = .ok (.aload_n 0, 1) := by decide +kernel
theorem dX9_wantedVersion_41 : decode cX9_wantedVersion 41 = .ok (.iconst 0, 1) := by decide +kernel
theorem dX9_wantedVersion_42 : decode cX9_wantedVersion 42 = .ok (.invokevirtual 65, 3) := by decide +kernel
theorem dX9_wantedVersion_45 : decode cX9_wantedVersion 45 = .ok (.getfield 69, 3) := by decide +kernel
theorem dX9_wantedVersion_48 : decode cX9_wantedVersion 48 = .ok (.iconst 1, 1) := by decide +kernel
theorem dX9_wantedVersion_49 : decode cX9_wantedVersion 49 = .ok (.iadd, 1) := by decide +kernel
theorem dX9_wantedVersion_50 : decode cX9_wantedVersion 50 = .ok (.ireturn, 1) := by decide +kernel
theorem dX9_wantedVersion_51 : decode cX9_wantedVersion 51 = .ok (.aload_n 0, 1) := by decide +kernel
theorem dX9_wantedVersion_52 : decode cX9_wantedVersion 52 = .ok (.iconst 1, 1) := by decide +kernel
theorem dX9_wantedVersion_53 : decode cX9_wantedVersion 53 = .ok (.invokevirtual 65, 3) := by decide +kernel
theorem dX9_wantedVersion_56 : decode cX9_wantedVersion 56 = .ok (.getfield 72, 3) := by decide +kernel
theorem dX9_wantedVersion_59 : decode cX9_wantedVersion 59 = .ok (.ireturn, 1) := by decide +kernel
theorem dX9_wantedVersion_60 : decode cX9_wantedVersion 60 = .ok (.aload_n 0, 1) := by decide +kernel
theorem dX9_wantedVersion_61 : decode cX9_wantedVersion 61 = .ok (.iconst 2, 1) := by decide +kernel
theorem dX9_wantedVersion_62 : decode cX9_wantedVersion 62 = .ok (.invokevirtual 65, 3) := by decide +kernel
theorem dX9_wantedVersion_65 : decode cX9_wantedVersion 65 = .ok (.getfield 72, 3) := by decide +kernel
theorem dX9_wantedVersion_68 : decode cX9_wantedVersion 68 = .ok (.ireturn, 1) := by decide +kernel
theorem dX9_wantedVersion_69 : decode cX9_wantedVersion 69 = .ok (.aload_n 0, 1) := by decide +kernel
theorem dX9_wantedVersion_70 : decode cX9_wantedVersion 70 = .ok (.getfield 48, 3) := by decide +kernel
theorem dX9_wantedVersion_73 : decode cX9_wantedVersion 73 = .ok (.getfield 75, 3) := by decide +kernel
theorem dX9_wantedVersion_76 : decode cX9_wantedVersion 76 = .ok (.ireturn, 1) := by decide +kernel
theorem dX9_wantedVersion_77 : decode cX9_wantedVersion 77 = .ok (.iconst 0, 1) := by decide +kernel
theorem dX9_wantedVersion_78 : decode cX9_wantedVersion 78 = .ok (.ireturn, 1) := by decide +kernel
theorem dX9_takeRefusal_0 : decode cX9_takeRefusal 0 = .ok (.aload_n 0, 1) := by decide +kernel
theorem dX9_takeRefusal_1 : decode cX9_takeRefusal 1 = .ok (.getfield 27, 3) := by decide +kernel
theorem dX9_takeRefusal_4 : decode cX9_takeRefusal 4 = .ok (.iconst 1, 1) := by decide +kernel
theorem dX9_takeRefusal_5 : decode cX9_takeRefusal 5 = .ok (.if_icmp .eq 10, 3) := by decide +kernel
theorem dX9_takeRefusal_8 : decode cX9_takeRefusal 8 = .ok (.aload_n 0, 1) := by decide +kernel
theorem dX9_takeRefusal_9 : decode cX9_takeRefusal 9 = .ok (.bipush 6, 2) := by decide +kernel
theorem dX9_takeRefusal_11 : decode cX9_takeRefusal 11 = .ok (.invokevirtual 80, 3) := by decide +kernel
theorem dX9_takeRefusal_14 : decode cX9_takeRefusal 14 = .ok (.ireturn, 1) := by decide +kernel
theorem dX9_takeRefusal_15 : decode cX9_takeRefusal 15 = .ok (.aload_n 0, 1) := by decide +kernel
theorem dX9_takeRefusal_16 : decode cX9_takeRefusal 16 = .ok (.iconst 0, 1) := by decide +kernel
theorem dX9_takeRefusal_17 : decode cX9_takeRefusal 17 = .ok (.invokevirtual 65, 3) := by decide +kernel
theorem dX9_takeRefusal_20 : decode cX9_takeRefusal 20 = .ok (.getfield 84, 3) := by decide +kernel
theorem dX9_takeRefusal_23 : decode cX9_takeRefusal 23 = .ok (.aload_n 0, 1) := by decide +kernel
theorem dX9_takeRefusal_24 : decode cX9_takeRefusal 24 = .ok (.getfield 34, 3) := by decide +kernel
theorem dX9_takeRefusal_27 : decode cX9_takeRefusal 27 = .ok (.i2l, 1) := by decide +kernel
theorem dX9_takeRefusal_28 : decode cX9_takeRefusal 28 = .ok (.lcmp, 1) := by decide +kernel
theorem dX9_takeRefusal_29 : decode cX9_takeRefusal 29 = .ok (.ifCond .gt 9, 3) := by decide +kernel
theorem dX9_takeRefusal_32 : decode cX9_takeRefusal 32 = .ok (.aload_n 0, 1) := by decide +kernel
theorem dX9_takeRefusal_33 : decode cX9_takeRefusal 33 = .ok (.iconst 4, 1) := by decide +kernel
theorem dX9_takeRefusal_34 : decode cX9_takeRefusal 34 = .ok (.invokevirtual 80, 3) := by decide +kernel
theorem dX9_takeRefusal_37 : decode cX9_takeRefusal 37 = .ok (.ireturn, 1) := by decide +kernel
theorem dX9_takeRefusal_38 : decode cX9_takeRefusal 38 = .ok (.aload_n 0, 1) := by decide +kernel
theorem dX9_takeRefusal_39 : decode cX9_takeRefusal 39 = .ok (.iconst 2, 1) := by decide +kernel
theorem dX9_takeRefusal_40 : decode cX9_takeRefusal 40 = .ok (.putfield 27, 3) := by decide +kernel
theorem dX9_takeRefusal_43 : decode cX9_takeRefusal 43 = .ok (.aload_n 0, 1) := by decide +kernel
theorem dX9_takeRefusal_44 : decode cX9_takeRefusal 44 = .ok (.getfield 27, 3) := by decide +kernel
theorem dX9_takeRefusal_47 : decode cX9_takeRefusal 47 = .ok (.ireturn, 1) := by decide +kernel
theorem dX9_takeRoot_0 : decode cX9_takeRoot 0 = .ok (.aload_n 0, 1) := by decide +kernel
theorem dX9_takeRoot_1 : decode cX9_takeRoot 1 = .ok (.iconst 0, 1) := by decide +kernel
theorem dX9_takeRoot_2 : decode cX9_takeRoot 2 = .ok (.invokevirtual 65, 3) := by decide +kernel
theorem dX9_takeRoot_5 : decode cX9_takeRoot 5 = .ok (.astore_n 2, 1) := by decide +kernel
theorem dX9_takeRoot_6 : decode cX9_takeRoot 6 = .ok (.aload_n 0, 1) := by decide +kernel
theorem dX9_takeRoot_7 : decode cX9_takeRoot 7 = .ok (.getfield 12, 3) := by decide +kernel
theorem dX9_takeRoot_10 : decode cX9_takeRoot 10 = .ok (.aload_n 1, 1) := by decide +kernel
theorem dX9_takeRoot_11 : decode cX9_takeRoot 11 = .ok (.iconst 0, 1) := by decide +kernel
theorem dX9_takeRoot_12 : decode cX9_takeRoot 12 = .ok (.aload_n 1, 1) := by decide +kernel
theorem dX9_takeRoot_13 : decode cX9_takeRoot 13 = .ok (.invokevirtual 88, 3) := by decide +kernel
theorem dX9_takeRoot_16 : decode cX9_takeRoot 16 = .ok (.invokevirtual 92, 3) := by decide +kernel
theorem dX9_takeRoot_19 : decode cX9_takeRoot 19 = .ok (.ifCond .eq 13, 3) := by decide +kernel
theorem dX9_takeRoot_22 : decode cX9_takeRoot 22 = .ok (.aload_n 0, 1) := by decide +kernel
theorem dX9_takeRoot_23 : decode cX9_takeRoot 23 = .ok (.getfield 12, 3) := by decide +kernel
theorem dX9_takeRoot_26 : decode cX9_takeRoot 26 = .ok (.getfield 96, 3) := by decide +kernel
theorem dX9_takeRoot_29 : decode cX9_takeRoot 29 = .ok (.ifCond .eq 9, 3) := by decide +kernel
theorem dX9_takeRoot_32 : decode cX9_takeRoot 32 = .ok (.aload_n 0, 1) := by decide +kernel
theorem dX9_takeRoot_33 : decode cX9_takeRoot 33 = .ok (.iconst 1, 1) := by decide +kernel
theorem dX9_takeRoot_34 : decode cX9_takeRoot 34 = .ok (.invokevirtual 80, 3) := by decide +kernel
theorem dX9_takeRoot_37 : decode cX9_takeRoot 37 = .ok (.ireturn, 1) := by decide +kernel
theorem dX9_takeRoot_38 : decode cX9_takeRoot 38 = .ok (.aload_n 0, 1) := by decide +kernel
theorem dX9_takeRoot_39 : decode cX9_takeRoot 39 = .ok (.getfield 12, 3) := by decide +kernel
theorem dX9_takeRoot_42 : decode cX9_takeRoot 42 = .ok (.getfield 69, 3) := by decide +kernel
theorem dX9_takeRoot_45 : decode cX9_takeRoot 45 = .ok (.aload_n 2, 1) := by decide +kernel
theorem dX9_takeRoot_46 : decode cX9_takeRoot 46 = .ok (.getfield 69, 3) := by decide +kernel
theorem dX9_takeRoot_49 : decode cX9_takeRoot 49 = .ok (.iconst 1, 1) := by decide +kernel
theorem dX9_takeRoot_50 : decode cX9_takeRoot 50 = .ok (.iadd, 1) := by decide +kernel
theorem dX9_takeRoot_51 : decode cX9_takeRoot 51 = .ok (.if_icmp .eq 9, 3) := by decide +kernel
theorem dX9_takeRoot_54 : decode cX9_takeRoot 54 = .ok (.aload_n 0, 1) := by decide +kernel
theorem dX9_takeRoot_55 : decode cX9_takeRoot 55 = .ok (.iconst 3, 1) := by decide +kernel
theorem dX9_takeRoot_56 : decode cX9_takeRoot 56 = .ok (.invokevirtual 80, 3) := by decide +kernel
theorem dX9_takeRoot_59 : decode cX9_takeRoot 59 = .ok (.ireturn, 1) := by decide +kernel
theorem dX9_takeRoot_60 : decode cX9_takeRoot 60 = .ok (.aload_n 0, 1) := by decide +kernel
theorem dX9_takeRoot_61 : decode cX9_takeRoot 61 = .ok (.aload_n 0, 1) := by decide +kernel
theorem dX9_takeRoot_62 : decode cX9_takeRoot 62 = .ok (.getfield 12, 3) := by decide +kernel
theorem dX9_takeRoot_65 : decode cX9_takeRoot 65 = .ok (.aload_n 2, 1) := by decide +kernel
theorem dX9_takeRoot_66 : decode cX9_takeRoot 66 = .ok (.iconst 0, 1) := by decide +kernel
theorem dX9_takeRoot_67 : decode cX9_takeRoot 67 = .ok (.invokevirtual 99, 3) := by decide +kernel
theorem dX9_takeRoot_70 : decode cX9_takeRoot 70 = .ok (.ifCond .eq 19, 3) := by decide +kernel
theorem dX9_takeRoot_73 : decode cX9_takeRoot 73 = .ok (.aload_n 0, 1) := by decide +kernel
theorem dX9_takeRoot_74 : decode cX9_takeRoot 74 = .ok (.aload_n 0, 1) := by decide +kernel
theorem dX9_takeRoot_75 : decode cX9_takeRoot 75 = .ok (.getfield 12, 3) := by decide +kernel
theorem dX9_takeRoot_78 : decode cX9_takeRoot 78 = .ok (.aload_n 0, 1) := by decide +kernel
theorem dX9_takeRoot_79 : decode cX9_takeRoot 79 = .ok (.getfield 12, 3) := by decide +kernel
theorem dX9_takeRoot_82 : decode cX9_takeRoot 82 = .ok (.iconst 0, 1) := by decide +kernel
theorem dX9_takeRoot_83 : decode cX9_takeRoot 83 = .ok (.invokevirtual 99, 3) := by decide +kernel
theorem dX9_takeRoot_86 : decode cX9_takeRoot 86 = .ok (.ifCond .ne 9, 3) := by decide +kernel
theorem dX9_takeRoot_89 : decode cX9_takeRoot 89 = .ok (.aload_n 0, 1) := by decide +kernel
theorem dX9_takeRoot_90 : decode cX9_takeRoot 90 = .ok (.iconst 2, 1) := by decide +kernel
theorem dX9_takeRoot_91 : decode cX9_takeRoot 91 = .ok (.invokevirtual 80, 3) := by decide +kernel
theorem dX9_takeRoot_94 : decode cX9_takeRoot 94 = .ok (.ireturn, 1) := by decide +kernel
theorem dX9_takeRoot_95 : decode cX9_takeRoot 95 = .ok (.aload_n 0, 1) := by decide +kernel
theorem dX9_takeRoot_96 : decode cX9_takeRoot 96 = .ok (.getfield 12, 3) := by decide +kernel
theorem dX9_takeRoot_99 : decode cX9_takeRoot 99 = .ok (.aload_n 2, 1) := by decide +kernel
theorem dX9_takeRoot_100 : decode cX9_takeRoot 100 = .ok (.iconst 1, 1) := by decide +kernel
theorem dX9_takeRoot_101 : decode cX9_takeRoot 101 = .ok (.invokevirtual 103, 3) := by decide +kernel
theorem dX9_takeRoot_104 : decode cX9_takeRoot 104 = .ok (.ifCond .eq 15, 3) := by decide +kernel
theorem dX9_takeRoot_107 : decode cX9_takeRoot 107 = .ok (.aload_n 0, 1) := by decide +kernel
theorem dX9_takeRoot_108 : decode cX9_takeRoot 108 = .ok (.getfield 12, 3) := by decide +kernel
theorem dX9_takeRoot_111 : decode cX9_takeRoot 111 = .ok (.aload_n 2, 1) := by decide +kernel
theorem dX9_takeRoot_112 : decode cX9_takeRoot 112 = .ok (.iconst 2, 1) := by decide +kernel
theorem dX9_takeRoot_113 : decode cX9_takeRoot 113 = .ok (.invokevirtual 103, 3) := by decide +kernel
theorem dX9_takeRoot_116 : decode cX9_takeRoot 116 = .ok (.ifCond .ne 41, 3) := by decide +kernel
theorem dX9_takeRoot_119 : decode cX9_takeRoot 119 = .ok (.iconst 1, 1) := by decide +kernel
theorem dX9_takeRoot_120 : decode cX9_takeRoot 120 = .ok (.istore_n 3, 1) := by decide +kernel
theorem dX9_takeRoot_121 : decode cX9_takeRoot 121 = .ok (.iload_n 3, 1) := by decide +kernel
theorem dX9_takeRoot_122 : decode cX9_takeRoot 122 = .ok (.iconst 2, 1) := by decide +kernel
theorem dX9_takeRoot_123 : decode cX9_takeRoot 123 = .ok (.if_icmp .gt 34, 3) := by decide +kernel
theorem dX9_takeRoot_126 : decode cX9_takeRoot 126 = .ok (.aload_n 0, 1) := by decide +kernel
theorem dX9_takeRoot_127 : decode cX9_takeRoot 127 = .ok (.getfield 44, 3) := by decide +kernel
theorem dX9_takeRoot_130 : decode cX9_takeRoot 130 = .ok (.iload_n 3, 1) := by decide +kernel
theorem dX9_takeRoot_131 : decode cX9_takeRoot 131 = .ok (.aaload, 1) := by decide +kernel
theorem dX9_takeRoot_132 : decode cX9_takeRoot 132 = .ok (.invokevirtual 107, 3) := by decide +kernel
theorem dX9_takeRoot_135 : decode cX9_takeRoot 135 = .ok (.ifCond .eq 16, 3) := by decide +kernel
theorem dX9_takeRoot_138 : decode cX9_takeRoot 138 = .ok (.aload_n 0, 1) := by decide +kernel
theorem dX9_takeRoot_139 : decode cX9_takeRoot 139 = .ok (.getfield 44, 3) := by decide +kernel
theorem dX9_takeRoot_142 : decode cX9_takeRoot 142 = .ok (.iload_n 3, 1) := by decide +kernel
theorem dX9_takeRoot_143 : decode cX9_takeRoot 143 = .ok (.aaload, 1) := by decide +kernel
theorem dX9_takeRoot_144 : decode cX9_takeRoot 144 = .ok (.aload_n 0, 1) := by decide +kernel
theorem dX9_takeRoot_145 : decode cX9_takeRoot 145 = .ok (.getfield 23, 3) := by decide +kernel
theorem dX9_takeRoot_148 : decode cX9_takeRoot 148 = .ok (.invokevirtual 111, 3) := by decide +kernel
theorem dX9_takeRoot_151 : decode cX9_takeRoot 151 = .ok (.iinc 3 1, 3) := by decide +kernel
theorem dX9_takeRoot_154 : decode cX9_takeRoot 154 = .ok (.goto (-33), 3) := by decide +kernel
theorem dX9_takeRoot_157 : decode cX9_takeRoot 157 = .ok (.aload_n 0, 1) := by decide +kernel
theorem dX9_takeRoot_158 : decode cX9_takeRoot 158 = .ok (.getfield 44, 3) := by decide +kernel
theorem dX9_takeRoot_161 : decode cX9_takeRoot 161 = .ok (.iconst 0, 1) := by decide +kernel
theorem dX9_takeRoot_162 : decode cX9_takeRoot 162 = .ok (.aaload, 1) := by decide +kernel
theorem dX9_takeRoot_163 : decode cX9_takeRoot 163 = .ok (.aload_n 0, 1) := by decide +kernel
theorem dX9_takeRoot_164 : decode cX9_takeRoot 164 = .ok (.getfield 12, 3) := by decide +kernel
theorem dX9_takeRoot_167 : decode cX9_takeRoot 167 = .ok (.getfield 115, 3) := by decide +kernel
theorem dX9_takeRoot_170 : decode cX9_takeRoot 170 = .ok (.invokevirtual 111, 3) := by decide +kernel
theorem dX9_takeRoot_173 : decode cX9_takeRoot 173 = .ok (.aload_n 0, 1) := by decide +kernel
theorem dX9_takeRoot_174 : decode cX9_takeRoot 174 = .ok (.getfield 27, 3) := by decide +kernel
theorem dX9_takeRoot_177 : decode cX9_takeRoot 177 = .ok (.ireturn, 1) := by decide +kernel
theorem dX9_hasRole_0 : decode cX9_hasRole 0 = .ok (.iconst 0, 1) := by decide +kernel
theorem dX9_hasRole_1 : decode cX9_hasRole 1 = .ok (.istore 4, 2) := by decide +kernel
theorem dX9_hasRole_3 : decode cX9_hasRole 3 = .ok (.iconst 0, 1) := by decide +kernel
theorem dX9_hasRole_4 : decode cX9_hasRole 4 = .ok (.istore 5, 2) := by decide +kernel
theorem dX9_hasRole_6 : decode cX9_hasRole 6 = .ok (.iload 5, 2) := by decide +kernel
theorem dX9_hasRole_8 : decode cX9_hasRole 8 = .ok (.bipush 16, 2) := by decide +kernel
theorem dX9_hasRole_10 : decode cX9_hasRole 10 = .ok (.if_icmp .ge 59, 3) := by decide +kernel
theorem dX9_hasRole_13 : decode cX9_hasRole 13 = .ok (.aload_n 1, 1) := by decide +kernel
theorem dX9_hasRole_14 : decode cX9_hasRole 14 = .ok (.getfield 118, 3) := by decide +kernel
theorem dX9_hasRole_17 : decode cX9_hasRole 17 = .ok (.aload_n 2, 1) := by decide +kernel
theorem dX9_hasRole_18 : decode cX9_hasRole 18 = .ok (.getfield 121, 3) := by decide +kernel
theorem dX9_hasRole_21 : decode cX9_hasRole 21 = .ok (.iload_n 3, 1) := by decide +kernel
theorem dX9_hasRole_22 : decode cX9_hasRole 22 = .ok (.iaload, 1) := by decide +kernel
theorem dX9_hasRole_23 : decode cX9_hasRole 23 = .ok (.iand, 1) := by decide +kernel
theorem dX9_hasRole_24 : decode cX9_hasRole 24 = .ok (.iconst 1, 1) := by decide +kernel
theorem dX9_hasRole_25 : decode cX9_hasRole 25 = .ok (.iload 5, 2) := by decide +kernel
theorem dX9_hasRole_27 : decode cX9_hasRole 27 = .ok (.ishl, 1) := by decide +kernel
theorem dX9_hasRole_28 : decode cX9_hasRole 28 = .ok (.iand, 1) := by decide +kernel
theorem dX9_hasRole_29 : decode cX9_hasRole 29 = .ok (.ifCond .eq 7, 3) := by decide +kernel
theorem dX9_hasRole_32 : decode cX9_hasRole 32 = .ok (.iconst 1, 1) := by decide +kernel
theorem dX9_hasRole_33 : decode cX9_hasRole 33 = .ok (.goto 4, 3) := by decide +kernel
theorem dX9_hasRole_36 : decode cX9_hasRole 36 = .ok (.iconst 0, 1) := by decide +kernel
theorem dX9_hasRole_37 : decode cX9_hasRole 37 = .ok (.istore 6, 2) := by decide +kernel
theorem dX9_hasRole_39 : decode cX9_hasRole 39 = .ok (.iload 6, 2) := by decide +kernel
theorem dX9_hasRole_41 : decode cX9_hasRole 41 = .ok (.ifCond .eq 22, 3) := by decide +kernel
theorem dX9_hasRole_44 : decode cX9_hasRole 44 = .ok (.aload_n 0, 1) := by decide +kernel
theorem dX9_hasRole_45 : decode cX9_hasRole 45 = .ok (.getfield 52, 3) := by decide +kernel
theorem dX9_hasRole_48 : decode cX9_hasRole 48 = .ok (.iload 5, 2) := by decide +kernel
theorem dX9_hasRole_50 : decode cX9_hasRole 50 = .ok (.aload_n 1, 1) := by decide +kernel
theorem dX9_hasRole_51 : decode cX9_hasRole 51 = .ok (.getfield 125, 3) := by decide +kernel
theorem dX9_hasRole_54 : decode cX9_hasRole 54 = .ok (.invokevirtual 128, 3) := by decide +kernel
theorem dX9_hasRole_57 : decode cX9_hasRole 57 = .ok (.ifCond .eq 6, 3) := by decide +kernel
theorem dX9_hasRole_60 : decode cX9_hasRole 60 = .ok (.iinc 4 1, 3) := by decide +kernel
theorem dX9_hasRole_63 : decode cX9_hasRole 63 = .ok (.iinc 5 1, 3) := by decide +kernel
theorem dX9_hasRole_66 : decode cX9_hasRole 66 = .ok (.goto (-60), 3) := by decide +kernel
theorem dX9_hasRole_69 : decode cX9_hasRole 69 = .ok (.iload 4, 2) := by decide +kernel
theorem dX9_hasRole_71 : decode cX9_hasRole 71 = .ok (.aload_n 2, 1) := by decide +kernel
theorem dX9_hasRole_72 : decode cX9_hasRole 72 = .ok (.getfield 134, 3) := by decide +kernel
theorem dX9_hasRole_75 : decode cX9_hasRole 75 = .ok (.iload_n 3, 1) := by decide +kernel
theorem dX9_hasRole_76 : decode cX9_hasRole 76 = .ok (.iaload, 1) := by decide +kernel
theorem dX9_hasRole_77 : decode cX9_hasRole 77 = .ok (.if_icmp .lt 7, 3) := by decide +kernel
theorem dX9_hasRole_80 : decode cX9_hasRole 80 = .ok (.iconst 1, 1) := by decide +kernel
theorem dX9_hasRole_81 : decode cX9_hasRole 81 = .ok (.goto 4, 3) := by decide +kernel
theorem dX9_hasRole_84 : decode cX9_hasRole 84 = .ok (.iconst 0, 1) := by decide +kernel
theorem dX9_hasRole_85 : decode cX9_hasRole 85 = .ok (.ireturn, 1) := by decide +kernel
theorem dX9_takePaper_0 : decode cX9_takePaper 0 = .ok (.aload_n 0, 1) := by decide +kernel
theorem dX9_takePaper_1 : decode cX9_takePaper 1 = .ok (.getfield 27, 3) := by decide +kernel
theorem dX9_takePaper_4 : decode cX9_takePaper 4 = .ok (.iconst 1, 1) := by decide +kernel
theorem dX9_takePaper_5 : decode cX9_takePaper 5 = .ok (.isub, 1) := by decide +kernel
theorem dX9_takePaper_6 : decode cX9_takePaper 6 = .ok (.istore_n 2, 1) := by decide +kernel
theorem dX9_takePaper_7 : decode cX9_takePaper 7 = .ok (.aload_n 0, 1) := by decide +kernel
theorem dX9_takePaper_8 : decode cX9_takePaper 8 = .ok (.getfield 12, 3) := by decide +kernel
theorem dX9_takePaper_11 : decode cX9_takePaper 11 = .ok (.aload_n 1, 1) := by decide +kernel
theorem dX9_takePaper_12 : decode cX9_takePaper 12 = .ok (.iconst 0, 1) := by decide +kernel
theorem dX9_takePaper_13 : decode cX9_takePaper 13 = .ok (.aload_n 1, 1) := by decide +kernel
theorem dX9_takePaper_14 : decode cX9_takePaper 14 = .ok (.invokevirtual 88, 3) := by decide +kernel
theorem dX9_takePaper_17 : decode cX9_takePaper 17 = .ok (.invokevirtual 92, 3) := by decide +kernel
theorem dX9_takePaper_20 : decode cX9_takePaper 20 = .ok (.ifCond .eq 14, 3) := by decide +kernel
theorem dX9_takePaper_23 : decode cX9_takePaper 23 = .ok (.aload_n 0, 1) := by decide +kernel
theorem dX9_takePaper_24 : decode cX9_takePaper 24 = .ok (.getfield 12, 3) := by decide +kernel
theorem dX9_takePaper_27 : decode cX9_takePaper 27 = .ok (.getfield 96, 3) := by decide +kernel
theorem dX9_takePaper_30 : decode cX9_takePaper 30 = .ok (.iload_n 2, 1) := by decide +kernel
theorem dX9_takePaper_31 : decode cX9_takePaper 31 = .ok (.if_icmp .eq 9, 3) := by decide +kernel
theorem dX9_takePaper_34 : decode cX9_takePaper 34 = .ok (.aload_n 0, 1) := by decide +kernel
theorem dX9_takePaper_35 : decode cX9_takePaper 35 = .ok (.iconst 1, 1) := by decide +kernel
theorem dX9_takePaper_36 : decode cX9_takePaper 36 = .ok (.invokevirtual 80, 3) := by decide +kernel
theorem dX9_takePaper_39 : decode cX9_takePaper 39 = .ok (.ireturn, 1) := by decide +kernel
theorem dX9_takePaper_40 : decode cX9_takePaper 40 = .ok (.aload_n 0, 1) := by decide +kernel
theorem dX9_takePaper_41 : decode cX9_takePaper 41 = .ok (.getfield 12, 3) := by decide +kernel
theorem dX9_takePaper_44 : decode cX9_takePaper 44 = .ok (.astore_n 3, 1) := by decide +kernel
theorem dX9_takePaper_45 : decode cX9_takePaper 45 = .ok (.iload_n 2, 1) := by decide +kernel
theorem dX9_takePaper_46 : decode cX9_takePaper 46 = .ok (.istore 4, 2) := by decide +kernel
theorem dX9_takePaper_48 : decode cX9_takePaper 48 = .ok (.iload 4, 2) := by decide +kernel
theorem dX9_takePaper_50 : decode cX9_takePaper 50 = .ok (.iconst 3, 1) := by decide +kernel
theorem dX9_takePaper_51 : decode cX9_takePaper 51 = .ok (.if_icmp .gt 110, 3) := by decide +kernel
theorem dX9_takePaper_54 : decode cX9_takePaper 54 = .ok (.aload_n 0, 1) := by decide +kernel
theorem dX9_takePaper_55 : decode cX9_takePaper 55 = .ok (.aload_n 3, 1) := by decide +kernel
theorem dX9_takePaper_56 : decode cX9_takePaper 56 = .ok (.iload 4, 2) := by decide +kernel
theorem dX9_takePaper_58 : decode cX9_takePaper 58 = .ok (.invokevirtual 137, 3) := by decide +kernel
theorem dX9_takePaper_61 : decode cX9_takePaper 61 = .ok (.istore 5, 2) := by decide +kernel
theorem dX9_takePaper_63 : decode cX9_takePaper 63 = .ok (.iload 5, 2) := by decide +kernel
theorem dX9_takePaper_65 : decode cX9_takePaper 65 = .ok (.ifCond .eq 10, 3) := by decide +kernel
theorem dX9_takePaper_68 : decode cX9_takePaper 68 = .ok (.aload_n 0, 1) := by decide +kernel
theorem dX9_takePaper_69 : decode cX9_takePaper 69 = .ok (.iload 5, 2) := by decide +kernel
theorem dX9_takePaper_71 : decode cX9_takePaper 71 = .ok (.invokevirtual 80, 3) := by decide +kernel
theorem dX9_takePaper_74 : decode cX9_takePaper 74 = .ok (.ireturn, 1) := by decide +kernel
theorem dX9_takePaper_75 : decode cX9_takePaper 75 = .ok (.aload_n 0, 1) := by decide +kernel
theorem dX9_takePaper_76 : decode cX9_takePaper 76 = .ok (.getfield 44, 3) := by decide +kernel
theorem dX9_takePaper_79 : decode cX9_takePaper 79 = .ok (.iload 4, 2) := by decide +kernel
theorem dX9_takePaper_81 : decode cX9_takePaper 81 = .ok (.aaload, 1) := by decide +kernel
theorem dX9_takePaper_82 : decode cX9_takePaper 82 = .ok (.aload_n 3, 1) := by decide +kernel
theorem dX9_takePaper_83 : decode cX9_takePaper 83 = .ok (.invokevirtual 141, 3) := by decide +kernel
theorem dX9_takePaper_86 : decode cX9_takePaper 86 = .ok (.ifCond .ne 17, 3) := by decide +kernel
theorem dX9_takePaper_89 : decode cX9_takePaper 89 = .ok (.aload_n 0, 1) := by decide +kernel
theorem dX9_takePaper_90 : decode cX9_takePaper 90 = .ok (.getfield 44, 3) := by decide +kernel
theorem dX9_takePaper_93 : decode cX9_takePaper 93 = .ok (.iload 4, 2) := by decide +kernel
theorem dX9_takePaper_95 : decode cX9_takePaper 95 = .ok (.aaload, 1) := by decide +kernel
theorem dX9_takePaper_96 : decode cX9_takePaper 96 = .ok (.aload_n 3, 1) := by decide +kernel
theorem dX9_takePaper_97 : decode cX9_takePaper 97 = .ok (.getfield 115, 3) := by decide +kernel
theorem dX9_takePaper_100 : decode cX9_takePaper 100 = .ok (.invokevirtual 111, 3) := by decide +kernel
theorem dX9_takePaper_103 : decode cX9_takePaper 103 = .ok (.aload_n 0, 1) := by decide +kernel
theorem dX9_takePaper_104 : decode cX9_takePaper 104 = .ok (.getfield 40, 3) := by decide +kernel
theorem dX9_takePaper_107 : decode cX9_takePaper 107 = .ok (.invokevirtual 145, 3) := by decide +kernel
theorem dX9_takePaper_110 : decode cX9_takePaper 110 = .ok (.ifCond .eq 6, 3) := by decide +kernel
theorem dX9_takePaper_113 : decode cX9_takePaper 113 = .ok (.bipush (-3), 2) := by decide +kernel
theorem dX9_takePaper_115 : decode cX9_takePaper 115 = .ok (.ireturn, 1) := by decide +kernel
theorem dX9_takePaper_116 : decode cX9_takePaper 116 = .ok (.iload 4, 2) := by decide +kernel
theorem dX9_takePaper_118 : decode cX9_takePaper 118 = .ok (.iconst 3, 1) := by decide +kernel
theorem dX9_takePaper_119 : decode cX9_takePaper 119 = .ok (.if_icmp .ge 36, 3) := by decide +kernel
theorem dX9_takePaper_122 : decode cX9_takePaper 122 = .ok (.aload_n 0, 1) := by decide +kernel
theorem dX9_takePaper_123 : decode cX9_takePaper 123 = .ok (.iload 4, 2) := by decide +kernel
theorem dX9_takePaper_125 : decode cX9_takePaper 125 = .ok (.iconst 1, 1) := by decide +kernel
theorem dX9_takePaper_126 : decode cX9_takePaper 126 = .ok (.iadd, 1) := by decide +kernel
theorem dX9_takePaper_127 : decode cX9_takePaper 127 = .ok (.invokevirtual 150, 3) := by decide +kernel
theorem dX9_takePaper_130 : decode cX9_takePaper 130 = .ok (.ifCond .ne 16, 3) := by decide +kernel
theorem dX9_takePaper_133 : decode cX9_takePaper 133 = .ok (.aload_n 0, 1) := by decide +kernel
theorem dX9_takePaper_134 : decode cX9_takePaper 134 = .ok (.iload 4, 2) := by decide +kernel
theorem dX9_takePaper_136 : decode cX9_takePaper 136 = .ok (.iconst 2, 1) := by decide +kernel
theorem dX9_takePaper_137 : decode cX9_takePaper 137 = .ok (.iadd, 1) := by decide +kernel
theorem dX9_takePaper_138 : decode cX9_takePaper 138 = .ok (.putfield 27, 3) := by decide +kernel
theorem dX9_takePaper_141 : decode cX9_takePaper 141 = .ok (.aload_n 0, 1) := by decide +kernel
theorem dX9_takePaper_142 : decode cX9_takePaper 142 = .ok (.getfield 27, 3) := by decide +kernel
theorem dX9_takePaper_145 : decode cX9_takePaper 145 = .ok (.ireturn, 1) := by decide +kernel
theorem dX9_takePaper_146 : decode cX9_takePaper 146 = .ok (.aload_n 0, 1) := by decide +kernel
theorem dX9_takePaper_147 : decode cX9_takePaper 147 = .ok (.iload 4, 2) := by decide +kernel
theorem dX9_takePaper_149 : decode cX9_takePaper 149 = .ok (.iconst 1, 1) := by decide +kernel
theorem dX9_takePaper_150 : decode cX9_takePaper 150 = .ok (.iadd, 1) := by decide +kernel
theorem dX9_takePaper_151 : decode cX9_takePaper 151 = .ok (.invokevirtual 65, 3) := by decide +kernel
theorem dX9_takePaper_154 : decode cX9_takePaper 154 = .ok (.astore_n 3, 1) := by decide +kernel
theorem dX9_takePaper_155 : decode cX9_takePaper 155 = .ok (.iinc 4 1, 3) := by decide +kernel
theorem dX9_takePaper_158 : decode cX9_takePaper 158 = .ok (.goto (-110), 3) := by decide +kernel
theorem dX9_takePaper_161 : decode cX9_takePaper 161 = .ok (.aload_n 0, 1) := by decide +kernel
theorem dX9_takePaper_162 : decode cX9_takePaper 162 = .ok (.invokevirtual 154, 3) := by decide +kernel
theorem dX9_takePaper_165 : decode cX9_takePaper 165 = .ok (.ireturn, 1) := by decide +kernel
theorem dX9_judge_0 : decode cX9_judge 0 = .ok (.iload_n 2, 1) := by decide +kernel
theorem dX9_judge_1 : decode cX9_judge 1 = .ok (.iconst 1, 1) := by decide +kernel
theorem dX9_judge_2 : decode cX9_judge 2 = .ok (.if_icmp .eq 7, 3) := by decide +kernel
theorem dX9_judge_5 : decode cX9_judge 5 = .ok (.iconst 1, 1) := by decide +kernel
theorem dX9_judge_6 : decode cX9_judge 6 = .ok (.goto 4, 3) := by decide +kernel
theorem dX9_judge_9 : decode cX9_judge 9 = .ok (.iconst 0, 1) := by decide +kernel
theorem dX9_judge_10 : decode cX9_judge 10 = .ok (.istore_n 3, 1) := by decide +kernel
theorem dX9_judge_11 : decode cX9_judge 11 = .ok (.aload_n 0, 1) := by decide +kernel
theorem dX9_judge_12 : decode cX9_judge 12 = .ok (.iload_n 3, 1) := by decide +kernel
theorem dX9_judge_13 : decode cX9_judge 13 = .ok (.ifCond .eq 9, 3) := by decide +kernel
theorem dX9_judge_16 : decode cX9_judge 16 = .ok (.iload_n 2, 1) := by decide +kernel
theorem dX9_judge_17 : decode cX9_judge 17 = .ok (.iconst 1, 1) := by decide +kernel
theorem dX9_judge_18 : decode cX9_judge 18 = .ok (.isub, 1) := by decide +kernel
theorem dX9_judge_19 : decode cX9_judge 19 = .ok (.goto 4, 3) := by decide +kernel
theorem dX9_judge_22 : decode cX9_judge 22 = .ok (.iload_n 2, 1) := by decide +kernel
theorem dX9_judge_23 : decode cX9_judge 23 = .ok (.invokevirtual 65, 3) := by decide +kernel
theorem dX9_judge_26 : decode cX9_judge 26 = .ok (.astore 4, 2) := by decide +kernel
theorem dX9_judge_28 : decode cX9_judge 28 = .ok (.aload_n 0, 1) := by decide +kernel
theorem dX9_judge_29 : decode cX9_judge 29 = .ok (.getfield 44, 3) := by decide +kernel
theorem dX9_judge_32 : decode cX9_judge 32 = .ok (.iload_n 2, 1) := by decide +kernel
theorem dX9_judge_33 : decode cX9_judge 33 = .ok (.aaload, 1) := by decide +kernel
theorem dX9_judge_34 : decode cX9_judge 34 = .ok (.invokevirtual 107, 3) := by decide +kernel
theorem dX9_judge_37 : decode cX9_judge 37 = .ok (.istore 5, 2) := by decide +kernel
theorem dX9_judge_39 : decode cX9_judge 39 = .ok (.aload_n 0, 1) := by decide +kernel
theorem dX9_judge_40 : decode cX9_judge 40 = .ok (.iload_n 2, 1) := by decide +kernel
theorem dX9_judge_41 : decode cX9_judge 41 = .ok (.invokevirtual 65, 3) := by decide +kernel
theorem dX9_judge_44 : decode cX9_judge 44 = .ok (.astore 6, 2) := by decide +kernel
theorem dX9_judge_46 : decode cX9_judge 46 = .ok (.iload_n 3, 1) := by decide +kernel
theorem dX9_judge_47 : decode cX9_judge 47 = .ok (.ifCond .eq 18, 3) := by decide +kernel
theorem dX9_judge_50 : decode cX9_judge 50 = .ok (.aload_n 1, 1) := by decide +kernel
theorem dX9_judge_51 : decode cX9_judge 51 = .ok (.getfield 125, 3) := by decide +kernel
theorem dX9_judge_54 : decode cX9_judge 54 = .ok (.aload 4, 2) := by decide +kernel
theorem dX9_judge_56 : decode cX9_judge 56 = .ok (.getfield 157, 3) := by decide +kernel
theorem dX9_judge_59 : decode cX9_judge 59 = .ok (.lcmp, 1) := by decide +kernel
theorem dX9_judge_60 : decode cX9_judge 60 = .ok (.ifCond .eq 5, 3) := by decide +kernel
theorem dX9_judge_63 : decode cX9_judge 63 = .ok (.iconst 5, 1) := by decide +kernel
theorem dX9_judge_64 : decode cX9_judge 64 = .ok (.ireturn, 1) := by decide +kernel
theorem dX9_judge_65 : decode cX9_judge 65 = .ok (.aload_n 0, 1) := by decide +kernel
theorem dX9_judge_66 : decode cX9_judge 66 = .ok (.aload_n 1, 1) := by decide +kernel
theorem dX9_judge_67 : decode cX9_judge 67 = .ok (.aload_n 0, 1) := by decide +kernel
theorem dX9_judge_68 : decode cX9_judge 68 = .ok (.iconst 0, 1) := by decide +kernel
theorem dX9_judge_69 : decode cX9_judge 69 = .ok (.invokevirtual 65, 3) := by decide +kernel
theorem dX9_judge_72 : decode cX9_judge 72 = .ok (.iload_n 2, 1) := by decide +kernel
theorem dX9_judge_73 : decode cX9_judge 73 = .ok (.invokevirtual 99, 3) := by decide +kernel
theorem dX9_judge_76 : decode cX9_judge 76 = .ok (.ifCond .ne 5, 3) := by decide +kernel
theorem dX9_judge_79 : decode cX9_judge 79 = .ok (.iconst 2, 1) := by decide +kernel
theorem dX9_judge_80 : decode cX9_judge 80 = .ok (.ireturn, 1) := by decide +kernel
theorem dX9_judge_81 : decode cX9_judge 81 = .ok (.iload_n 3, 1) := by decide +kernel
theorem dX9_judge_82 : decode cX9_judge 82 = .ok (.ifCond .eq 18, 3) := by decide +kernel
theorem dX9_judge_85 : decode cX9_judge 85 = .ok (.aload_n 1, 1) := by decide +kernel
theorem dX9_judge_86 : decode cX9_judge 86 = .ok (.getfield 69, 3) := by decide +kernel
theorem dX9_judge_89 : decode cX9_judge 89 = .ok (.aload 4, 2) := by decide +kernel
theorem dX9_judge_91 : decode cX9_judge 91 = .ok (.getfield 72, 3) := by decide +kernel
theorem dX9_judge_94 : decode cX9_judge 94 = .ok (.if_icmp .eq 25, 3) := by decide +kernel
theorem dX9_judge_97 : decode cX9_judge 97 = .ok (.goto 20, 3) := by decide +kernel
theorem dX9_judge_100 : decode cX9_judge 100 = .ok (.iload 5, 2) := by decide +kernel
theorem dX9_judge_102 : decode cX9_judge 102 = .ok (.ifCond .eq 17, 3) := by decide +kernel
theorem dX9_judge_105 : decode cX9_judge 105 = .ok (.aload_n 1, 1) := by decide +kernel
theorem dX9_judge_106 : decode cX9_judge 106 = .ok (.getfield 69, 3) := by decide +kernel
theorem dX9_judge_109 : decode cX9_judge 109 = .ok (.aload 6, 2) := by decide +kernel
theorem dX9_judge_111 : decode cX9_judge 111 = .ok (.getfield 69, 3) := by decide +kernel
theorem dX9_judge_114 : decode cX9_judge 114 = .ok (.if_icmp .ge 5, 3) := by decide +kernel
theorem dX9_judge_117 : decode cX9_judge 117 = .ok (.iconst 3, 1) := by decide +kernel
theorem dX9_judge_118 : decode cX9_judge 118 = .ok (.ireturn, 1) := by decide +kernel
theorem dX9_judge_119 : decode cX9_judge 119 = .ok (.iload_n 2, 1) := by decide +kernel
theorem dX9_judge_120 : decode cX9_judge 120 = .ok (.iconst 3, 1) := by decide +kernel
theorem dX9_judge_121 : decode cX9_judge 121 = .ok (.if_icmp .eq 23, 3) := by decide +kernel
theorem dX9_judge_124 : decode cX9_judge 124 = .ok (.iload 5, 2) := by decide +kernel
theorem dX9_judge_126 : decode cX9_judge 126 = .ok (.ifCond .eq 18, 3) := by decide +kernel
theorem dX9_judge_129 : decode cX9_judge 129 = .ok (.aload_n 1, 1) := by decide +kernel
theorem dX9_judge_130 : decode cX9_judge 130 = .ok (.getfield 72, 3) := by decide +kernel
theorem dX9_judge_133 : decode cX9_judge 133 = .ok (.aload 6, 2) := by decide +kernel
theorem dX9_judge_135 : decode cX9_judge 135 = .ok (.getfield 72, 3) := by decide +kernel
theorem dX9_judge_138 : decode cX9_judge 138 = .ok (.if_icmp .ge 6, 3) := by decide +kernel
theorem dX9_judge_141 : decode cX9_judge 141 = .ok (.bipush 10, 2) := by decide +kernel
theorem dX9_judge_143 : decode cX9_judge 143 = .ok (.ireturn, 1) := by decide +kernel
theorem dX9_judge_144 : decode cX9_judge 144 = .ok (.aload_n 1, 1) := by decide +kernel
theorem dX9_judge_145 : decode cX9_judge 145 = .ok (.getfield 84, 3) := by decide +kernel
theorem dX9_judge_148 : decode cX9_judge 148 = .ok (.aload_n 0, 1) := by decide +kernel
theorem dX9_judge_149 : decode cX9_judge 149 = .ok (.getfield 34, 3) := by decide +kernel
theorem dX9_judge_152 : decode cX9_judge 152 = .ok (.i2l, 1) := by decide +kernel
theorem dX9_judge_153 : decode cX9_judge 153 = .ok (.lcmp, 1) := by decide +kernel
theorem dX9_judge_154 : decode cX9_judge 154 = .ok (.ifCond .gt 7, 3) := by decide +kernel
theorem dX9_judge_157 : decode cX9_judge 157 = .ok (.iconst 4, 1) := by decide +kernel
theorem dX9_judge_158 : decode cX9_judge 158 = .ok (.goto 4, 3) := by decide +kernel
theorem dX9_judge_161 : decode cX9_judge 161 = .ok (.iconst 0, 1) := by decide +kernel
theorem dX9_judge_162 : decode cX9_judge 162 = .ok (.ireturn, 1) := by decide +kernel
theorem dX9_isTrustedAsTold_0 : decode cX9_isTrustedAsTold 0 = .ok (.aload_n 0, 1) := by decide +kernel
theorem dX9_isTrustedAsTold_1 : decode cX9_isTrustedAsTold 1 = .ok (.getfield 44, 3) := by decide +kernel
theorem dX9_isTrustedAsTold_4 : decode cX9_isTrustedAsTold 4 = .ok (.iload_n 1, 1) := by decide +kernel
theorem dX9_isTrustedAsTold_5 : decode cX9_isTrustedAsTold 5 = .ok (.aaload, 1) := by decide +kernel
theorem dX9_isTrustedAsTold_6 : decode cX9_isTrustedAsTold 6 = .ok (.invokevirtual 107, 3) := by decide +kernel
theorem dX9_isTrustedAsTold_9 : decode cX9_isTrustedAsTold 9 = .ok (.ifCond .eq 29, 3) := by decide +kernel
theorem dX9_isTrustedAsTold_12 : decode cX9_isTrustedAsTold 12 = .ok (.aload_n 0, 1) := by decide +kernel
theorem dX9_isTrustedAsTold_13 : decode cX9_isTrustedAsTold 13 = .ok (.iload_n 1, 1) := by decide +kernel
theorem dX9_isTrustedAsTold_14 : decode cX9_isTrustedAsTold 14 = .ok (.invokevirtual 65, 3) := by decide +kernel
theorem dX9_isTrustedAsTold_17 : decode cX9_isTrustedAsTold 17 = .ok (.getfield 125, 3) := by decide +kernel
theorem dX9_isTrustedAsTold_20 : decode cX9_isTrustedAsTold 20 = .ok (.aload_n 0, 1) := by decide +kernel
theorem dX9_isTrustedAsTold_21 : decode cX9_isTrustedAsTold 21 = .ok (.iload_n 1, 1) := by decide +kernel
theorem dX9_isTrustedAsTold_22 : decode cX9_isTrustedAsTold 22 = .ok (.iconst 1, 1) := by decide +kernel
theorem dX9_isTrustedAsTold_23 : decode cX9_isTrustedAsTold 23 = .ok (.isub, 1) := by decide +kernel
theorem dX9_isTrustedAsTold_24 : decode cX9_isTrustedAsTold 24 = .ok (.invokevirtual 65, 3) := by decide +kernel
theorem dX9_isTrustedAsTold_27 : decode cX9_isTrustedAsTold 27 = .ok (.getfield 157, 3) := by decide +kernel
theorem dX9_isTrustedAsTold_30 : decode cX9_isTrustedAsTold 30 = .ok (.lcmp, 1) := by decide +kernel
theorem dX9_isTrustedAsTold_31 : decode cX9_isTrustedAsTold 31 = .ok (.ifCond .ne 7, 3) := by decide +kernel
theorem dX9_isTrustedAsTold_34 : decode cX9_isTrustedAsTold 34 = .ok (.iconst 1, 1) := by decide +kernel
theorem dX9_isTrustedAsTold_35 : decode cX9_isTrustedAsTold 35 = .ok (.goto 4, 3) := by decide +kernel
theorem dX9_isTrustedAsTold_38 : decode cX9_isTrustedAsTold 38 = .ok (.iconst 0, 1) := by decide +kernel
theorem dX9_isTrustedAsTold_39 : decode cX9_isTrustedAsTold 39 = .ok (.ireturn, 1) := by decide +kernel
theorem dX9_chooseImage_0 : decode cX9_chooseImage 0 = .ok (.aload_n 0, 1) := by decide +kernel
theorem dX9_chooseImage_1 : decode cX9_chooseImage 1 = .ok (.iconst 3, 1) := by decide +kernel
theorem dX9_chooseImage_2 : decode cX9_chooseImage 2 = .ok (.invokevirtual 65, 3) := by decide +kernel
theorem dX9_chooseImage_5 : decode cX9_chooseImage 5 = .ok (.astore_n 1, 1) := by decide +kernel
theorem dX9_chooseImage_6 : decode cX9_chooseImage 6 = .ok (.aload_n 1, 1) := by decide +kernel
theorem dX9_chooseImage_7 : decode cX9_chooseImage 7 = .ok (.getfield 160, 3) := by decide +kernel
theorem dX9_chooseImage_10 : decode cX9_chooseImage 10 = .ok (.iconst 1, 1) := by decide +kernel
theorem dX9_chooseImage_11 : decode cX9_chooseImage 11 = .ok (.isub, 1) := by decide +kernel
theorem dX9_chooseImage_12 : decode cX9_chooseImage 12 = .ok (.istore_n 2, 1) := by decide +kernel
theorem dX9_chooseImage_13 : decode cX9_chooseImage 13 = .ok (.iload_n 2, 1) := by decide +kernel
theorem dX9_chooseImage_14 : decode cX9_chooseImage 14 = .ok (.ifCond .lt 24, 3) := by decide +kernel
theorem dX9_chooseImage_17 : decode cX9_chooseImage 17 = .ok (.iload_n 2, 1) := by decide +kernel
theorem dX9_chooseImage_18 : decode cX9_chooseImage 18 = .ok (.iconst 4, 1) := by decide +kernel
theorem dX9_chooseImage_19 : decode cX9_chooseImage 19 = .ok (.if_icmp .ge 19, 3) := by decide +kernel
theorem dX9_chooseImage_22 : decode cX9_chooseImage 22 = .ok (.aload_n 1, 1) := by decide +kernel
theorem dX9_chooseImage_23 : decode cX9_chooseImage 23 = .ok (.getfield 163, 3) := by decide +kernel
theorem dX9_chooseImage_26 : decode cX9_chooseImage 26 = .ok (.iload_n 2, 1) := by decide +kernel
theorem dX9_chooseImage_27 : decode cX9_chooseImage 27 = .ok (.iaload, 1) := by decide +kernel
theorem dX9_chooseImage_28 : decode cX9_chooseImage 28 = .ok (.aload_n 0, 1) := by decide +kernel
theorem dX9_chooseImage_29 : decode cX9_chooseImage 29 = .ok (.getfield 48, 3) := by decide +kernel
theorem dX9_chooseImage_32 : decode cX9_chooseImage 32 = .ok (.getfield 166, 3) := by decide +kernel
theorem dX9_chooseImage_35 : decode cX9_chooseImage 35 = .ok (.if_icmp .gt 10, 3) := by decide +kernel
theorem dX9_chooseImage_38 : decode cX9_chooseImage 38 = .ok (.aload_n 0, 1) := by decide +kernel
theorem dX9_chooseImage_39 : decode cX9_chooseImage 39 = .ok (.bipush 9, 2) := by decide +kernel
theorem dX9_chooseImage_41 : decode cX9_chooseImage 41 = .ok (.invokevirtual 80, 3) := by decide +kernel
theorem dX9_chooseImage_44 : decode cX9_chooseImage 44 = .ok (.ireturn, 1) := by decide +kernel
theorem dX9_chooseImage_45 : decode cX9_chooseImage 45 = .ok (.aload_n 1, 1) := by decide +kernel
theorem dX9_chooseImage_46 : decode cX9_chooseImage 46 = .ok (.getfield 163, 3) := by decide +kernel
theorem dX9_chooseImage_49 : decode cX9_chooseImage 49 = .ok (.iload_n 2, 1) := by decide +kernel
theorem dX9_chooseImage_50 : decode cX9_chooseImage 50 = .ok (.iaload, 1) := by decide +kernel
theorem dX9_chooseImage_51 : decode cX9_chooseImage 51 = .ok (.istore_n 3, 1) := by decide +kernel
theorem dX9_chooseImage_52 : decode cX9_chooseImage 52 = .ok (.aload_n 1, 1) := by decide +kernel
theorem dX9_chooseImage_53 : decode cX9_chooseImage 53 = .ok (.getfield 167, 3) := by decide +kernel
theorem dX9_chooseImage_56 : decode cX9_chooseImage 56 = .ok (.iload_n 2, 1) := by decide +kernel
theorem dX9_chooseImage_57 : decode cX9_chooseImage 57 = .ok (.iaload, 1) := by decide +kernel
theorem dX9_chooseImage_58 : decode cX9_chooseImage 58 = .ok (.istore 4, 2) := by decide +kernel
theorem dX9_chooseImage_60 : decode cX9_chooseImage 60 = .ok (.aload_n 1, 1) := by decide +kernel
theorem dX9_chooseImage_61 : decode cX9_chooseImage 61 = .ok (.getfield 170, 3) := by decide +kernel
theorem dX9_chooseImage_64 : decode cX9_chooseImage 64 = .ok (.iload_n 2, 1) := by decide +kernel
theorem dX9_chooseImage_65 : decode cX9_chooseImage 65 = .ok (.laload, 1) := by decide +kernel
theorem dX9_chooseImage_66 : decode cX9_chooseImage 66 = .ok (.invokestatic 174, 3) := by decide +kernel
theorem dX9_chooseImage_69 : decode cX9_chooseImage 69 = .ok (.lstore 5, 2) := by decide +kernel
theorem dX9_chooseImage_71 : decode cX9_chooseImage 71 = .ok (.aload_n 0, 1) := by decide +kernel
theorem dX9_chooseImage_72 : decode cX9_chooseImage 72 = .ok (.getfield 48, 3) := by decide +kernel
theorem dX9_chooseImage_75 : decode cX9_chooseImage 75 = .ok (.iload_n 3, 1) := by decide +kernel
theorem dX9_chooseImage_76 : decode cX9_chooseImage 76 = .ok (.iload 4, 2) := by decide +kernel
theorem dX9_chooseImage_78 : decode cX9_chooseImage 78 = .ok (.lload 5, 2) := by decide +kernel
theorem dX9_chooseImage_80 : decode cX9_chooseImage 80 = .ok (.invokevirtual 178, 3) := by decide +kernel
theorem dX9_chooseImage_83 : decode cX9_chooseImage 83 = .ok (.istore 7, 2) := by decide +kernel
theorem dX9_chooseImage_85 : decode cX9_chooseImage 85 = .ok (.iload 7, 2) := by decide +kernel
theorem dX9_chooseImage_87 : decode cX9_chooseImage 87 = .ok (.ifCond .eq 20, 3) := by decide +kernel
theorem dX9_chooseImage_90 : decode cX9_chooseImage 90 = .ok (.aload_n 0, 1) := by decide +kernel
theorem dX9_chooseImage_91 : decode cX9_chooseImage 91 = .ok (.getfield 48, 3) := by decide +kernel
theorem dX9_chooseImage_94 : decode cX9_chooseImage 94 = .ok (.getfield 182, 3) := by decide +kernel
theorem dX9_chooseImage_97 : decode cX9_chooseImage 97 = .ok (.iconst 2, 1) := by decide +kernel
theorem dX9_chooseImage_98 : decode cX9_chooseImage 98 = .ok (.if_icmp .ne 9, 3) := by decide +kernel
theorem dX9_chooseImage_101 : decode cX9_chooseImage 101 = .ok (.aload_n 0, 1) := by decide +kernel
theorem dX9_chooseImage_102 : decode cX9_chooseImage 102 = .ok (.invokevirtual 56, 3) := by decide +kernel
theorem dX9_chooseImage_105 : decode cX9_chooseImage 105 = .ok (.iconst 0, 1) := by decide +kernel
theorem dX9_chooseImage_106 : decode cX9_chooseImage 106 = .ok (.ireturn, 1) := by decide +kernel
theorem dX9_chooseImage_107 : decode cX9_chooseImage 107 = .ok (.iload 7, 2) := by decide +kernel
theorem dX9_chooseImage_109 : decode cX9_chooseImage 109 = .ok (.ifCond .eq 37, 3) := by decide +kernel
theorem dX9_chooseImage_112 : decode cX9_chooseImage 112 = .ok (.aload_n 0, 1) := by decide +kernel
theorem dX9_chooseImage_113 : decode cX9_chooseImage 113 = .ok (.getfield 48, 3) := by decide +kernel
theorem dX9_chooseImage_116 : decode cX9_chooseImage 116 = .ok (.getfield 182, 3) := by decide +kernel
theorem dX9_chooseImage_119 : decode cX9_chooseImage 119 = .ok (.iconst 1, 1) := by decide +kernel
theorem dX9_chooseImage_120 : decode cX9_chooseImage 120 = .ok (.if_icmp .ne 26, 3) := by decide +kernel
theorem dX9_chooseImage_123 : decode cX9_chooseImage 123 = .ok (.aload_n 0, 1) := by decide +kernel
theorem dX9_chooseImage_124 : decode cX9_chooseImage 124 = .ok (.aload_n 0, 1) := by decide +kernel
theorem dX9_chooseImage_125 : decode cX9_chooseImage 125 = .ok (.getfield 40, 3) := by decide +kernel
theorem dX9_chooseImage_128 : decode cX9_chooseImage 128 = .ok (.aload_n 0, 1) := by decide +kernel
theorem dX9_chooseImage_129 : decode cX9_chooseImage 129 = .ok (.getfield 48, 3) := by decide +kernel
theorem dX9_chooseImage_132 : decode cX9_chooseImage 132 = .ok (.invokevirtual 185, 3) := by decide +kernel
theorem dX9_chooseImage_135 : decode cX9_chooseImage 135 = .ok (.iload 4, 2) := by decide +kernel
theorem dX9_chooseImage_137 : decode cX9_chooseImage 137 = .ok (.invokevirtual 188, 3) := by decide +kernel
theorem dX9_chooseImage_140 : decode cX9_chooseImage 140 = .ok (.putfield 31, 3) := by decide +kernel
theorem dX9_chooseImage_143 : decode cX9_chooseImage 143 = .ok (.goto 42, 3) := by decide +kernel
theorem dX9_chooseImage_146 : decode cX9_chooseImage 146 = .ok (.aload_n 0, 1) := by decide +kernel
theorem dX9_chooseImage_147 : decode cX9_chooseImage 147 = .ok (.getfield 40, 3) := by decide +kernel
theorem dX9_chooseImage_150 : decode cX9_chooseImage 150 = .ok (.aload_n 0, 1) := by decide +kernel
theorem dX9_chooseImage_151 : decode cX9_chooseImage 151 = .ok (.getfield 48, 3) := by decide +kernel
theorem dX9_chooseImage_154 : decode cX9_chooseImage 154 = .ok (.invokevirtual 185, 3) := by decide +kernel
theorem dX9_chooseImage_157 : decode cX9_chooseImage 157 = .ok (.invokevirtual 192, 3) := by decide +kernel
theorem dX9_chooseImage_160 : decode cX9_chooseImage 160 = .ok (.aload_n 0, 1) := by decide +kernel
theorem dX9_chooseImage_161 : decode cX9_chooseImage 161 = .ok (.getfield 48, 3) := by decide +kernel
theorem dX9_chooseImage_164 : decode cX9_chooseImage 164 = .ok (.iconst 1, 1) := by decide +kernel
theorem dX9_chooseImage_165 : decode cX9_chooseImage 165 = .ok (.iload_n 3, 1) := by decide +kernel
theorem dX9_chooseImage_166 : decode cX9_chooseImage 166 = .ok (.iload 4, 2) := by decide +kernel
theorem dX9_chooseImage_168 : decode cX9_chooseImage 168 = .ok (.lload 5, 2) := by decide +kernel
theorem dX9_chooseImage_170 : decode cX9_chooseImage 170 = .ok (.invokevirtual 195, 3) := by decide +kernel
theorem dX9_chooseImage_173 : decode cX9_chooseImage 173 = .ok (.aload_n 0, 1) := by decide +kernel
theorem dX9_chooseImage_174 : decode cX9_chooseImage 174 = .ok (.getfield 48, 3) := by decide +kernel
theorem dX9_chooseImage_177 : decode cX9_chooseImage 177 = .ok (.invokevirtual 199, 3) := by decide +kernel
theorem dX9_chooseImage_180 : decode cX9_chooseImage 180 = .ok (.aload_n 0, 1) := by decide +kernel
theorem dX9_chooseImage_181 : decode cX9_chooseImage 181 = .ok (.iconst 0, 1) := by decide +kernel
theorem dX9_chooseImage_182 : decode cX9_chooseImage 182 = .ok (.putfield 31, 3) := by decide +kernel
theorem dX9_chooseImage_185 : decode cX9_chooseImage 185 = .ok (.aload_n 0, 1) := by decide +kernel
theorem dX9_chooseImage_186 : decode cX9_chooseImage 186 = .ok (.iconst 5, 1) := by decide +kernel
theorem dX9_chooseImage_187 : decode cX9_chooseImage 187 = .ok (.putfield 27, 3) := by decide +kernel
theorem dX9_chooseImage_190 : decode cX9_chooseImage 190 = .ok (.aload_n 0, 1) := by decide +kernel
theorem dX9_chooseImage_191 : decode cX9_chooseImage 191 = .ok (.getfield 27, 3) := by decide +kernel
theorem dX9_chooseImage_194 : decode cX9_chooseImage 194 = .ok (.ireturn, 1) := by decide +kernel
theorem dX9_takePiece_0 : decode cX9_takePiece 0 = .ok (.aload_n 0, 1) := by decide +kernel
theorem dX9_takePiece_1 : decode cX9_takePiece 1 = .ok (.getfield 31, 3) := by decide +kernel
theorem dX9_takePiece_4 : decode cX9_takePiece 4 = .ok (.bipush 64, 2) := by decide +kernel
theorem dX9_takePiece_6 : decode cX9_takePiece 6 = .ok (.imul, 1) := by decide +kernel
theorem dX9_takePiece_7 : decode cX9_takePiece 7 = .ok (.istore_n 2, 1) := by decide +kernel
theorem dX9_takePiece_8 : decode cX9_takePiece 8 = .ok (.aload_n 0, 1) := by decide +kernel
theorem dX9_takePiece_9 : decode cX9_takePiece 9 = .ok (.getfield 48, 3) := by decide +kernel
theorem dX9_takePiece_12 : decode cX9_takePiece 12 = .ok (.getfield 202, 3) := by decide +kernel
theorem dX9_takePiece_15 : decode cX9_takePiece 15 = .ok (.iload_n 2, 1) := by decide +kernel
theorem dX9_takePiece_16 : decode cX9_takePiece 16 = .ok (.isub, 1) := by decide +kernel
theorem dX9_takePiece_17 : decode cX9_takePiece 17 = .ok (.istore_n 3, 1) := by decide +kernel
theorem dX9_takePiece_18 : decode cX9_takePiece 18 = .ok (.aload_n 1, 1) := by decide +kernel
theorem dX9_takePiece_19 : decode cX9_takePiece 19 = .ok (.invokevirtual 88, 3) := by decide +kernel
theorem dX9_takePiece_22 : decode cX9_takePiece 22 = .ok (.iload_n 3, 1) := by decide +kernel
theorem dX9_takePiece_23 : decode cX9_takePiece 23 = .ok (.bipush 64, 2) := by decide +kernel
theorem dX9_takePiece_25 : decode cX9_takePiece 25 = .ok (.invokestatic 205, 3) := by decide +kernel
theorem dX9_takePiece_28 : decode cX9_takePiece 28 = .ok (.if_icmp .eq 10, 3) := by decide +kernel
theorem dX9_takePiece_31 : decode cX9_takePiece 31 = .ok (.aload_n 0, 1) := by decide +kernel
theorem dX9_takePiece_32 : decode cX9_takePiece 32 = .ok (.bipush 7, 2) := by decide +kernel
theorem dX9_takePiece_34 : decode cX9_takePiece 34 = .ok (.invokevirtual 80, 3) := by decide +kernel
theorem dX9_takePiece_37 : decode cX9_takePiece 37 = .ok (.ireturn, 1) := by decide +kernel
theorem dX9_takePiece_38 : decode cX9_takePiece 38 = .ok (.aload_n 0, 1) := by decide +kernel
theorem dX9_takePiece_39 : decode cX9_takePiece 39 = .ok (.getfield 40, 3) := by decide +kernel
theorem dX9_takePiece_42 : decode cX9_takePiece 42 = .ok (.aload_n 0, 1) := by decide +kernel
theorem dX9_takePiece_43 : decode cX9_takePiece 43 = .ok (.getfield 48, 3) := by decide +kernel
theorem dX9_takePiece_46 : decode cX9_takePiece 46 = .ok (.invokevirtual 185, 3) := by decide +kernel
theorem dX9_takePiece_49 : decode cX9_takePiece 49 = .ok (.invokestatic 210, 3) := by decide +kernel
theorem dX9_takePiece_52 : decode cX9_takePiece 52 = .ok (.iload_n 2, 1) := by decide +kernel
theorem dX9_takePiece_53 : decode cX9_takePiece 53 = .ok (.iadd, 1) := by decide +kernel
theorem dX9_takePiece_54 : decode cX9_takePiece 54 = .ok (.bipush 32, 2) := by decide +kernel
theorem dX9_takePiece_56 : decode cX9_takePiece 56 = .ok (.idiv, 1) := by decide +kernel
theorem dX9_takePiece_57 : decode cX9_takePiece 57 = .ok (.aload_n 1, 1) := by decide +kernel
theorem dX9_takePiece_58 : decode cX9_takePiece 58 = .ok (.invokevirtual 213, 3) := by decide +kernel
theorem dX9_takePiece_61 : decode cX9_takePiece 61 = .ok (.aload_n 0, 1) := by decide +kernel
theorem dX9_takePiece_62 : decode cX9_takePiece 62 = .ok (.getfield 40, 3) := by decide +kernel
theorem dX9_takePiece_65 : decode cX9_takePiece 65 = .ok (.invokevirtual 145, 3) := by decide +kernel
theorem dX9_takePiece_68 : decode cX9_takePiece 68 = .ok (.ifCond .eq 6, 3) := by decide +kernel
theorem dX9_takePiece_71 : decode cX9_takePiece 71 = .ok (.bipush (-3), 2) := by decide +kernel
theorem dX9_takePiece_73 : decode cX9_takePiece 73 = .ok (.ireturn, 1) := by decide +kernel
theorem dX9_takePiece_74 : decode cX9_takePiece 74 = .ok (.iload_n 3, 1) := by decide +kernel
theorem dX9_takePiece_75 : decode cX9_takePiece 75 = .ok (.bipush 64, 2) := by decide +kernel
theorem dX9_takePiece_77 : decode cX9_takePiece 77 = .ok (.if_icmp .le 18, 3) := by decide +kernel
theorem dX9_takePiece_80 : decode cX9_takePiece 80 = .ok (.aload_n 0, 1) := by decide +kernel
theorem dX9_takePiece_81 : decode cX9_takePiece 81 = .ok (.dup, 1) := by decide +kernel
theorem dX9_takePiece_82 : decode cX9_takePiece 82 = .ok (.getfield 31, 3) := by decide +kernel
theorem dX9_takePiece_85 : decode cX9_takePiece 85 = .ok (.iconst 1, 1) := by decide +kernel
theorem dX9_takePiece_86 : decode cX9_takePiece 86 = .ok (.iadd, 1) := by decide +kernel
theorem dX9_takePiece_87 : decode cX9_takePiece 87 = .ok (.putfield 31, 3) := by decide +kernel
theorem dX9_takePiece_90 : decode cX9_takePiece 90 = .ok (.aload_n 0, 1) := by decide +kernel
theorem dX9_takePiece_91 : decode cX9_takePiece 91 = .ok (.getfield 27, 3) := by decide +kernel
theorem dX9_takePiece_94 : decode cX9_takePiece 94 = .ok (.ireturn, 1) := by decide +kernel
theorem dX9_takePiece_95 : decode cX9_takePiece 95 = .ok (.aload_n 0, 1) := by decide +kernel
theorem dX9_takePiece_96 : decode cX9_takePiece 96 = .ok (.invokevirtual 217, 3) := by decide +kernel
theorem dX9_takePiece_99 : decode cX9_takePiece 99 = .ok (.ireturn, 1) := by decide +kernel
theorem dX9_finishProgram_0 : decode cX9_finishProgram 0 = .ok (.aload_n 0, 1) := by decide +kernel
theorem dX9_finishProgram_1 : decode cX9_finishProgram 1 = .ok (.getfield 40, 3) := by decide +kernel
theorem dX9_finishProgram_4 : decode cX9_finishProgram 4 = .ok (.aload_n 0, 1) := by decide +kernel
theorem dX9_finishProgram_5 : decode cX9_finishProgram 5 = .ok (.getfield 48, 3) := by decide +kernel
theorem dX9_finishProgram_8 : decode cX9_finishProgram 8 = .ok (.invokevirtual 185, 3) := by decide +kernel
theorem dX9_finishProgram_11 : decode cX9_finishProgram 11 = .ok (.aload_n 0, 1) := by decide +kernel
theorem dX9_finishProgram_12 : decode cX9_finishProgram 12 = .ok (.getfield 48, 3) := by decide +kernel
theorem dX9_finishProgram_15 : decode cX9_finishProgram 15 = .ok (.getfield 202, 3) := by decide +kernel
theorem dX9_finishProgram_18 : decode cX9_finishProgram 18 = .ok (.invokevirtual 220, 3) := by decide +kernel
theorem dX9_finishProgram_21 : decode cX9_finishProgram 21 = .ok (.aload_n 0, 1) := by decide +kernel
theorem dX9_finishProgram_22 : decode cX9_finishProgram 22 = .ok (.getfield 48, 3) := by decide +kernel
theorem dX9_finishProgram_25 : decode cX9_finishProgram 25 = .ok (.getfield 224, 3) := by decide +kernel
theorem dX9_finishProgram_28 : decode cX9_finishProgram 28 = .ok (.lcmp, 1) := by decide +kernel
theorem dX9_finishProgram_29 : decode cX9_finishProgram 29 = .ok (.ifCond .ne 7, 3) := by decide +kernel
theorem dX9_finishProgram_32 : decode cX9_finishProgram 32 = .ok (.iconst 1, 1) := by decide +kernel
theorem dX9_finishProgram_33 : decode cX9_finishProgram 33 = .ok (.goto 4, 3) := by decide +kernel
theorem dX9_finishProgram_36 : decode cX9_finishProgram 36 = .ok (.iconst 0, 1) := by decide +kernel
theorem dX9_finishProgram_37 : decode cX9_finishProgram 37 = .ok (.istore_n 1, 1) := by decide +kernel
theorem dX9_finishProgram_38 : decode cX9_finishProgram 38 = .ok (.iload_n 1, 1) := by decide +kernel
theorem dX9_finishProgram_39 : decode cX9_finishProgram 39 = .ok (.ifCond .eq 14, 3) := by decide +kernel
theorem dX9_finishProgram_42 : decode cX9_finishProgram 42 = .ok (.aload_n 0, 1) := by decide +kernel
theorem dX9_finishProgram_43 : decode cX9_finishProgram 43 = .ok (.getfield 48, 3) := by decide +kernel
theorem dX9_finishProgram_46 : decode cX9_finishProgram 46 = .ok (.iconst 2, 1) := by decide +kernel
theorem dX9_finishProgram_47 : decode cX9_finishProgram 47 = .ok (.putfield 182, 3) := by decide +kernel
theorem dX9_finishProgram_50 : decode cX9_finishProgram 50 = .ok (.goto 10, 3) := by decide +kernel
theorem dX9_finishProgram_53 : decode cX9_finishProgram 53 = .ok (.aload_n 0, 1) := by decide +kernel
theorem dX9_finishProgram_54 : decode cX9_finishProgram 54 = .ok (.getfield 48, 3) := by decide +kernel
theorem dX9_finishProgram_57 : decode cX9_finishProgram 57 = .ok (.invokevirtual 227, 3) := by decide +kernel
theorem dX9_finishProgram_60 : decode cX9_finishProgram 60 = .ok (.aload_n 0, 1) := by decide +kernel
theorem dX9_finishProgram_61 : decode cX9_finishProgram 61 = .ok (.getfield 48, 3) := by decide +kernel
theorem dX9_finishProgram_64 : decode cX9_finishProgram 64 = .ok (.invokevirtual 199, 3) := by decide +kernel
theorem dX9_finishProgram_67 : decode cX9_finishProgram 67 = .ok (.aload_n 0, 1) := by decide +kernel
theorem dX9_finishProgram_68 : decode cX9_finishProgram 68 = .ok (.getfield 40, 3) := by decide +kernel
theorem dX9_finishProgram_71 : decode cX9_finishProgram 71 = .ok (.invokevirtual 145, 3) := by decide +kernel
theorem dX9_finishProgram_74 : decode cX9_finishProgram 74 = .ok (.ifCond .eq 6, 3) := by decide +kernel
theorem dX9_finishProgram_77 : decode cX9_finishProgram 77 = .ok (.bipush (-3), 2) := by decide +kernel
theorem dX9_finishProgram_79 : decode cX9_finishProgram 79 = .ok (.ireturn, 1) := by decide +kernel
theorem dX9_finishProgram_80 : decode cX9_finishProgram 80 = .ok (.iload_n 1, 1) := by decide +kernel
theorem dX9_finishProgram_81 : decode cX9_finishProgram 81 = .ok (.ifCond .ne 10, 3) := by decide +kernel
theorem dX9_finishProgram_84 : decode cX9_finishProgram 84 = .ok (.aload_n 0, 1) := by decide +kernel
theorem dX9_finishProgram_85 : decode cX9_finishProgram 85 = .ok (.bipush 8, 2) := by decide +kernel
theorem dX9_finishProgram_87 : decode cX9_finishProgram 87 = .ok (.invokevirtual 80, 3) := by decide +kernel
theorem dX9_finishProgram_90 : decode cX9_finishProgram 90 = .ok (.ireturn, 1) := by decide +kernel
theorem dX9_finishProgram_91 : decode cX9_finishProgram 91 = .ok (.aload_n 0, 1) := by decide +kernel
theorem dX9_finishProgram_92 : decode cX9_finishProgram 92 = .ok (.invokevirtual 56, 3) := by decide +kernel
theorem dX9_finishProgram_95 : decode cX9_finishProgram 95 = .ok (.iconst 0, 1) := by decide +kernel
theorem dX9_finishProgram_96 : decode cX9_finishProgram 96 = .ok (.ireturn, 1) := by decide +kernel
