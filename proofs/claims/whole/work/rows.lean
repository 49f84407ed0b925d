section
-- ===== PART A: goes FIRST, ahead of the names: the tables' words, and 'selects' of the private methods out of them =====
/-- a private method of a class that the tables say can be made, by its rows of tables_1 -/
def lw_okq (q : MethodName × Nat) : Prop := (q.1.cls ≠ "java/lang/invoke/MethodHandle" ∧ q.1.cls ≠ "java/lang/invoke/VarHandle") ∧ Cond.instantiable q.1.cls q.2 ∈ tables_1 ∧ Cond.privateMethod q.1 ∈ tables_1 ∧ Cond.instanceMethod q.1 ∈ tables_1
theorem lw_p0 : lw_okq (⟨"FlashTrust$States", "becomeFactory", "()V"⟩, 14) := ⟨⟨by decide +kernel, by decide +kernel⟩, List.mem_of_getElem? (i := 303) (by decide +kernel), List.mem_of_getElem? (i := 385) (by decide +kernel), List.mem_of_getElem? (i := 386) (by decide +kernel)⟩
theorem lw_p1 : lw_okq (⟨"FlashTrust$States", "compose", "(I)V"⟩, 14) := ⟨⟨by decide +kernel, by decide +kernel⟩, List.mem_of_getElem? (i := 303) (by decide +kernel), List.mem_of_getElem? (i := 393) (by decide +kernel), List.mem_of_getElem? (i := 394) (by decide +kernel)⟩
theorem lw_p2 : lw_okq (⟨"FlashTrust$States", "look", "()V"⟩, 14) := ⟨⟨by decide +kernel, by decide +kernel⟩, List.mem_of_getElem? (i := 303) (by decide +kernel), List.mem_of_getElem? (i := 419) (by decide +kernel), List.mem_of_getElem? (i := 420) (by decide +kernel)⟩
theorem lw_p3 : lw_okq (⟨"FlashTrust$States", "fits", "(I)Z"⟩, 14) := ⟨⟨by decide +kernel, by decide +kernel⟩, List.mem_of_getElem? (i := 303) (by decide +kernel), List.mem_of_getElem? (i := 429) (by decide +kernel), List.mem_of_getElem? (i := 430) (by decide +kernel)⟩
theorem lw_p4 : lw_okq (⟨"FlashTrust$States", "load", "(I)V"⟩, 14) := ⟨⟨by decide +kernel, by decide +kernel⟩, List.mem_of_getElem? (i := 303) (by decide +kernel), List.mem_of_getElem? (i := 438) (by decide +kernel), List.mem_of_getElem? (i := 439) (by decide +kernel)⟩
theorem lw_p5 : lw_okq (⟨"FlashTrust$Maker", "addProgram", "(LFlashTrust$Row;III)V"⟩, 14) := ⟨⟨by decide +kernel, by decide +kernel⟩, List.mem_of_getElem? (i := 64) (by decide +kernel), List.mem_of_getElem? (i := 581) (by decide +kernel), List.mem_of_getElem? (i := 582) (by decide +kernel)⟩
theorem lw_p6 : lw_okq (⟨"FlashTrust$Maker", "addRoles", "()V"⟩, 14) := ⟨⟨by decide +kernel, by decide +kernel⟩, List.mem_of_getElem? (i := 64) (by decide +kernel), List.mem_of_getElem? (i := 604) (by decide +kernel), List.mem_of_getElem? (i := 605) (by decide +kernel)⟩
theorem lw_p7 : lw_okq (⟨"FlashTrust$Maker", "addImages", "()V"⟩, 14) := ⟨⟨by decide +kernel, by decide +kernel⟩, List.mem_of_getElem? (i := 64) (by decide +kernel), List.mem_of_getElem? (i := 613) (by decide +kernel), List.mem_of_getElem? (i := 614) (by decide +kernel)⟩
theorem lw_p8 : lw_okq (⟨"FlashTrust$Update", "trustedPaper", "(I)LFlashTrust$Paper;"⟩, 10) := ⟨⟨by decide +kernel, by decide +kernel⟩, List.mem_of_getElem? (i := 463) (by decide +kernel), List.mem_of_getElem? (i := 689) (by decide +kernel), List.mem_of_getElem? (i := 690) (by decide +kernel)⟩
theorem lw_p9 : lw_okq (⟨"FlashTrust$Shelf", "counting", "()LFlashTrust$Entry;"⟩, 6) := ⟨⟨by decide +kernel, by decide +kernel⟩, List.mem_of_getElem? (i := 169) (by decide +kernel), List.mem_of_getElem? (i := 702) (by decide +kernel), List.mem_of_getElem? (i := 703) (by decide +kernel)⟩
theorem lw_p10 : lw_okq (⟨"FlashTrust$Shelf", "secondCounts", "()Z"⟩, 6) := ⟨⟨by decide +kernel, by decide +kernel⟩, List.mem_of_getElem? (i := 169) (by decide +kernel), List.mem_of_getElem? (i := 706) (by decide +kernel), List.mem_of_getElem? (i := 707) (by decide +kernel)⟩
theorem lw_p11 : lw_okq (⟨"FlashTrust$Paper", "readHead", "()Z"⟩, 15) := ⟨⟨by decide +kernel, by decide +kernel⟩, List.mem_of_getElem? (i := 175) (by decide +kernel), List.mem_of_getElem? (i := 719) (by decide +kernel), List.mem_of_getElem? (i := 720) (by decide +kernel)⟩
theorem lw_p12 : lw_okq (⟨"FlashTrust$Paper", "readKeys", "()Z"⟩, 15) := ⟨⟨by decide +kernel, by decide +kernel⟩, List.mem_of_getElem? (i := 175) (by decide +kernel), List.mem_of_getElem? (i := 724) (by decide +kernel), List.mem_of_getElem? (i := 725) (by decide +kernel)⟩
theorem lw_p13 : lw_okq (⟨"FlashTrust$Paper", "readRoot", "()Z"⟩, 15) := ⟨⟨by decide +kernel, by decide +kernel⟩, List.mem_of_getElem? (i := 175) (by decide +kernel), List.mem_of_getElem? (i := 733) (by decide +kernel), List.mem_of_getElem? (i := 734) (by decide +kernel)⟩
theorem lw_p14 : lw_okq (⟨"FlashTrust$Paper", "readTold", "()Z"⟩, 15) := ⟨⟨by decide +kernel, by decide +kernel⟩, List.mem_of_getElem? (i := 175) (by decide +kernel), List.mem_of_getElem? (i := 737) (by decide +kernel), List.mem_of_getElem? (i := 738) (by decide +kernel)⟩
theorem lw_p15 : lw_okq (⟨"FlashTrust$Paper", "readImages", "()Z"⟩, 15) := ⟨⟨by decide +kernel, by decide +kernel⟩, List.mem_of_getElem? (i := 175) (by decide +kernel), List.mem_of_getElem? (i := 741) (by decide +kernel), List.mem_of_getElem? (i := 742) (by decide +kernel)⟩
def lw_privs_1 : List (MethodName × Nat) := [(⟨"FlashTrust$States", "becomeFactory", "()V"⟩, 14), (⟨"FlashTrust$States", "compose", "(I)V"⟩, 14), (⟨"FlashTrust$States", "look", "()V"⟩, 14), (⟨"FlashTrust$States", "fits", "(I)Z"⟩, 14), (⟨"FlashTrust$States", "load", "(I)V"⟩, 14), (⟨"FlashTrust$Maker", "addProgram", "(LFlashTrust$Row;III)V"⟩, 14), (⟨"FlashTrust$Maker", "addRoles", "()V"⟩, 14), (⟨"FlashTrust$Maker", "addImages", "()V"⟩, 14), (⟨"FlashTrust$Update", "trustedPaper", "(I)LFlashTrust$Paper;"⟩, 10), (⟨"FlashTrust$Shelf", "counting", "()LFlashTrust$Entry;"⟩, 6), (⟨"FlashTrust$Shelf", "secondCounts", "()Z"⟩, 6), (⟨"FlashTrust$Paper", "readHead", "()Z"⟩, 15), (⟨"FlashTrust$Paper", "readKeys", "()Z"⟩, 15), (⟨"FlashTrust$Paper", "readRoot", "()Z"⟩, 15), (⟨"FlashTrust$Paper", "readTold", "()Z"⟩, 15), (⟨"FlashTrust$Paper", "readImages", "()Z"⟩, 15)]
theorem lw_r1 : ∀ q ∈ lw_privs_1, lw_okq q := List.forall_mem_cons.mpr ⟨lw_p0, List.forall_mem_cons.mpr ⟨lw_p1, List.forall_mem_cons.mpr ⟨lw_p2, List.forall_mem_cons.mpr ⟨lw_p3, List.forall_mem_cons.mpr ⟨lw_p4, List.forall_mem_cons.mpr ⟨lw_p5, List.forall_mem_cons.mpr ⟨lw_p6, List.forall_mem_cons.mpr ⟨lw_p7, List.forall_mem_cons.mpr ⟨lw_p8, List.forall_mem_cons.mpr ⟨lw_p9, List.forall_mem_cons.mpr ⟨lw_p10, List.forall_mem_cons.mpr ⟨lw_p11, List.forall_mem_cons.mpr ⟨lw_p12, List.forall_mem_cons.mpr ⟨lw_p13, List.forall_mem_cons.mpr ⟨lw_p14, List.forall_mem_cons.mpr ⟨lw_p15, fun _ h => absurd h List.not_mem_nil⟩⟩⟩⟩⟩⟩⟩⟩⟩⟩⟩⟩⟩⟩⟩⟩
theorem lw_p16 : lw_okq (⟨"FlashTrust$Update", "fail", "(I)I"⟩, 10) := ⟨⟨by decide +kernel, by decide +kernel⟩, List.mem_of_getElem? (i := 463) (by decide +kernel), List.mem_of_getElem? (i := 745) (by decide +kernel), List.mem_of_getElem? (i := 746) (by decide +kernel)⟩
theorem lw_p17 : lw_okq (⟨"FlashTrust$Update", "hasRole", "(LFlashTrust$Paper;LFlashTrust$Paper;I)Z"⟩, 10) := ⟨⟨by decide +kernel, by decide +kernel⟩, List.mem_of_getElem? (i := 463) (by decide +kernel), List.mem_of_getElem? (i := 753) (by decide +kernel), List.mem_of_getElem? (i := 754) (by decide +kernel)⟩
theorem lw_p18 : lw_okq (⟨"FlashTrust$Flash", "powerHolds", "()Z"⟩, 6) := ⟨⟨by decide +kernel, by decide +kernel⟩, List.mem_of_getElem? (i := 126) (by decide +kernel), List.mem_of_getElem? (i := 780) (by decide +kernel), List.mem_of_getElem? (i := 781) (by decide +kernel)⟩
theorem lw_p19 : lw_okq (⟨"FlashTrust$Update", "finishProgram", "()I"⟩, 10) := ⟨⟨by decide +kernel, by decide +kernel⟩, List.mem_of_getElem? (i := 463) (by decide +kernel), List.mem_of_getElem? (i := 815) (by decide +kernel), List.mem_of_getElem? (i := 816) (by decide +kernel)⟩
theorem lw_p20 : lw_okq (⟨"FlashTrust$States", "nextBlank", "(I)I"⟩, 14) := ⟨⟨by decide +kernel, by decide +kernel⟩, List.mem_of_getElem? (i := 303) (by decide +kernel), List.mem_of_getElem? (i := 828) (by decide +kernel), List.mem_of_getElem? (i := 829) (by decide +kernel)⟩
theorem lw_p21 : lw_okq (⟨"FlashTrust$Update", "judge", "(LFlashTrust$Paper;I)I"⟩, 10) := ⟨⟨by decide +kernel, by decide +kernel⟩, List.mem_of_getElem? (i := 463) (by decide +kernel), List.mem_of_getElem? (i := 842) (by decide +kernel), List.mem_of_getElem? (i := 843) (by decide +kernel)⟩
theorem lw_p22 : lw_okq (⟨"FlashTrust$Update", "isTrustedAsTold", "(I)Z"⟩, 10) := ⟨⟨by decide +kernel, by decide +kernel⟩, List.mem_of_getElem? (i := 463) (by decide +kernel), List.mem_of_getElem? (i := 856) (by decide +kernel), List.mem_of_getElem? (i := 857) (by decide +kernel)⟩
theorem lw_p23 : lw_okq (⟨"FlashTrust$Update", "chooseImage", "()I"⟩, 10) := ⟨⟨by decide +kernel, by decide +kernel⟩, List.mem_of_getElem? (i := 463) (by decide +kernel), List.mem_of_getElem? (i := 860) (by decide +kernel), List.mem_of_getElem? (i := 861) (by decide +kernel)⟩
theorem lw_p24 : lw_okq (⟨"FlashTrust", "unlessDown", "(I)I"⟩, 7) := ⟨⟨by decide +kernel, by decide +kernel⟩, List.mem_of_getElem? (i := 16) (by decide +kernel), List.mem_of_getElem? (i := 880) (by decide +kernel), List.mem_of_getElem? (i := 881) (by decide +kernel)⟩
theorem lw_p25 : lw_okq (⟨"FlashTrust$Loader", "startTrial", "()I"⟩, 4) := ⟨⟨by decide +kernel, by decide +kernel⟩, List.mem_of_getElem? (i := 442) (by decide +kernel), List.mem_of_getElem? (i := 930) (by decide +kernel), List.mem_of_getElem? (i := 931) (by decide +kernel)⟩
theorem lw_p26 : lw_okq (⟨"FlashTrust$Loader", "startConfirmed", "()I"⟩, 4) := ⟨⟨by decide +kernel, by decide +kernel⟩, List.mem_of_getElem? (i := 442) (by decide +kernel), List.mem_of_getElem? (i := 939) (by decide +kernel), List.mem_of_getElem? (i := 940) (by decide +kernel)⟩
theorem lw_p27 : lw_okq (⟨"FlashTrust$Paper", "isRole", "(I)Z"⟩, 15) := ⟨⟨by decide +kernel, by decide +kernel⟩, List.mem_of_getElem? (i := 175) (by decide +kernel), List.mem_of_getElem? (i := 980) (by decide +kernel), List.mem_of_getElem? (i := 981) (by decide +kernel)⟩
theorem lw_p28 : lw_okq (⟨"FlashTrust$Paper", "isImage", "(I)Z"⟩, 15) := ⟨⟨by decide +kernel, by decide +kernel⟩, List.mem_of_getElem? (i := 175) (by decide +kernel), List.mem_of_getElem? (i := 984) (by decide +kernel), List.mem_of_getElem? (i := 985) (by decide +kernel)⟩
theorem lw_p29 : lw_okq (⟨"FlashTrustModel", "slotDigest", "(II)J"⟩, 75) := ⟨⟨by decide +kernel, by decide +kernel⟩, List.mem_of_getElem? (i := 1000) (by decide +kernel), List.mem_of_getElem? (i := 1009) (by decide +kernel), List.mem_of_getElem? (i := 1010) (by decide +kernel)⟩
theorem lw_p30 : lw_okq (⟨"FlashTrustModel", "digestBegin", "()V"⟩, 75) := ⟨⟨by decide +kernel, by decide +kernel⟩, List.mem_of_getElem? (i := 1000) (by decide +kernel), List.mem_of_getElem? (i := 1013) (by decide +kernel), List.mem_of_getElem? (i := 1014) (by decide +kernel)⟩
theorem lw_p31 : lw_okq (⟨"FlashTrustModel", "digestByte", "(I)V"⟩, 75) := ⟨⟨by decide +kernel, by decide +kernel⟩, List.mem_of_getElem? (i := 1000) (by decide +kernel), List.mem_of_getElem? (i := 1018) (by decide +kernel), List.mem_of_getElem? (i := 1019) (by decide +kernel)⟩
def lw_privs_2 : List (MethodName × Nat) := [(⟨"FlashTrust$Update", "fail", "(I)I"⟩, 10), (⟨"FlashTrust$Update", "hasRole", "(LFlashTrust$Paper;LFlashTrust$Paper;I)Z"⟩, 10), (⟨"FlashTrust$Flash", "powerHolds", "()Z"⟩, 6), (⟨"FlashTrust$Update", "finishProgram", "()I"⟩, 10), (⟨"FlashTrust$States", "nextBlank", "(I)I"⟩, 14), (⟨"FlashTrust$Update", "judge", "(LFlashTrust$Paper;I)I"⟩, 10), (⟨"FlashTrust$Update", "isTrustedAsTold", "(I)Z"⟩, 10), (⟨"FlashTrust$Update", "chooseImage", "()I"⟩, 10), (⟨"FlashTrust", "unlessDown", "(I)I"⟩, 7), (⟨"FlashTrust$Loader", "startTrial", "()I"⟩, 4), (⟨"FlashTrust$Loader", "startConfirmed", "()I"⟩, 4), (⟨"FlashTrust$Paper", "isRole", "(I)Z"⟩, 15), (⟨"FlashTrust$Paper", "isImage", "(I)Z"⟩, 15), (⟨"FlashTrustModel", "slotDigest", "(II)J"⟩, 75), (⟨"FlashTrustModel", "digestBegin", "()V"⟩, 75), (⟨"FlashTrustModel", "digestByte", "(I)V"⟩, 75)]
theorem lw_r2 : ∀ q ∈ lw_privs_2, lw_okq q := List.forall_mem_cons.mpr ⟨lw_p16, List.forall_mem_cons.mpr ⟨lw_p17, List.forall_mem_cons.mpr ⟨lw_p18, List.forall_mem_cons.mpr ⟨lw_p19, List.forall_mem_cons.mpr ⟨lw_p20, List.forall_mem_cons.mpr ⟨lw_p21, List.forall_mem_cons.mpr ⟨lw_p22, List.forall_mem_cons.mpr ⟨lw_p23, List.forall_mem_cons.mpr ⟨lw_p24, List.forall_mem_cons.mpr ⟨lw_p25, List.forall_mem_cons.mpr ⟨lw_p26, List.forall_mem_cons.mpr ⟨lw_p27, List.forall_mem_cons.mpr ⟨lw_p28, List.forall_mem_cons.mpr ⟨lw_p29, List.forall_mem_cons.mpr ⟨lw_p30, List.forall_mem_cons.mpr ⟨lw_p31, fun _ h => absurd h List.not_mem_nil⟩⟩⟩⟩⟩⟩⟩⟩⟩⟩⟩⟩⟩⟩⟩⟩
theorem lw_p32 : lw_okq (⟨"FlashTrustModel", "layState", "()V"⟩, 75) := ⟨⟨by decide +kernel, by decide +kernel⟩, List.mem_of_getElem? (i := 1000) (by decide +kernel), List.mem_of_getElem? (i := 1024) (by decide +kernel), List.mem_of_getElem? (i := 1025) (by decide +kernel)⟩
theorem lw_p33 : lw_okq (⟨"FlashTrustModel", "isState", "(I)Z"⟩, 75) := ⟨⟨by decide +kernel, by decide +kernel⟩, List.mem_of_getElem? (i := 1000) (by decide +kernel), List.mem_of_getElem? (i := 1028) (by decide +kernel), List.mem_of_getElem? (i := 1029) (by decide +kernel)⟩
theorem lw_p34 : lw_okq (⟨"FlashTrustModel", "wide", "(II)I"⟩, 75) := ⟨⟨by decide +kernel, by decide +kernel⟩, List.mem_of_getElem? (i := 1000) (by decide +kernel), List.mem_of_getElem? (i := 1032) (by decide +kernel), List.mem_of_getElem? (i := 1033) (by decide +kernel)⟩
theorem lw_p35 : lw_okq (⟨"FlashTrustModel", "checkOf", "(II)I"⟩, 75) := ⟨⟨by decide +kernel, by decide +kernel⟩, List.mem_of_getElem? (i := 1000) (by decide +kernel), List.mem_of_getElem? (i := 1036) (by decide +kernel), List.mem_of_getElem? (i := 1037) (by decide +kernel)⟩
theorem lw_p36 : lw_okq (⟨"FlashTrustModel", "checkNow", "()I"⟩, 75) := ⟨⟨by decide +kernel, by decide +kernel⟩, List.mem_of_getElem? (i := 1000) (by decide +kernel), List.mem_of_getElem? (i := 1040) (by decide +kernel), List.mem_of_getElem? (i := 1041) (by decide +kernel)⟩
theorem lw_p37 : lw_okq (⟨"FlashTrustModel", "six", "(I)J"⟩, 75) := ⟨⟨by decide +kernel, by decide +kernel⟩, List.mem_of_getElem? (i := 1000) (by decide +kernel), List.mem_of_getElem? (i := 1044) (by decide +kernel), List.mem_of_getElem? (i := 1045) (by decide +kernel)⟩
theorem lw_p38 : lw_okq (⟨"FlashTrustModel", "layPage", "(I)V"⟩, 75) := ⟨⟨by decide +kernel, by decide +kernel⟩, List.mem_of_getElem? (i := 1000) (by decide +kernel), List.mem_of_getElem? (i := 1048) (by decide +kernel), List.mem_of_getElem? (i := 1049) (by decide +kernel)⟩
theorem lw_p39 : lw_okq (⟨"FlashTrustModel", "put", "(JI)V"⟩, 75) := ⟨⟨by decide +kernel, by decide +kernel⟩, List.mem_of_getElem? (i := 1000) (by decide +kernel), List.mem_of_getElem? (i := 1052) (by decide +kernel), List.mem_of_getElem? (i := 1053) (by decide +kernel)⟩
theorem lw_p40 : lw_okq (⟨"FlashTrustModel", "takePiece", "(I)I"⟩, 75) := ⟨⟨by decide +kernel, by decide +kernel⟩, List.mem_of_getElem? (i := 1000) (by decide +kernel), List.mem_of_getElem? (i := 1314) (by decide +kernel), List.mem_of_getElem? (i := 1315) (by decide +kernel)⟩
theorem lw_p41 : lw_okq (⟨"FlashTrustModel", "fail", "(I)I"⟩, 75) := ⟨⟨by decide +kernel, by decide +kernel⟩, List.mem_of_getElem? (i := 1000) (by decide +kernel), List.mem_of_getElem? (i := 1318) (by decide +kernel), List.mem_of_getElem? (i := 1319) (by decide +kernel)⟩
theorem lw_p42 : lw_okq (⟨"FlashTrustModel", "writePage", "(I)V"⟩, 75) := ⟨⟨by decide +kernel, by decide +kernel⟩, List.mem_of_getElem? (i := 1000) (by decide +kernel), List.mem_of_getElem? (i := 1322) (by decide +kernel), List.mem_of_getElem? (i := 1323) (by decide +kernel)⟩
theorem lw_p43 : lw_okq (⟨"FlashTrustModel", "hasPower", "()Z"⟩, 75) := ⟨⟨by decide +kernel, by decide +kernel⟩, List.mem_of_getElem? (i := 1000) (by decide +kernel), List.mem_of_getElem? (i := 1326) (by decide +kernel), List.mem_of_getElem? (i := 1327) (by decide +kernel)⟩
theorem lw_p44 : lw_okq (⟨"FlashTrustModel", "writeState", "(I)V"⟩, 75) := ⟨⟨by decide +kernel, by decide +kernel⟩, List.mem_of_getElem? (i := 1000) (by decide +kernel), List.mem_of_getElem? (i := 1330) (by decide +kernel), List.mem_of_getElem? (i := 1331) (by decide +kernel)⟩
theorem lw_p45 : lw_okq (⟨"FlashTrustModel", "isErased", "(I)Z"⟩, 75) := ⟨⟨by decide +kernel, by decide +kernel⟩, List.mem_of_getElem? (i := 1000) (by decide +kernel), List.mem_of_getElem? (i := 1334) (by decide +kernel), List.mem_of_getElem? (i := 1335) (by decide +kernel)⟩
theorem lw_p46 : lw_okq (⟨"FlashTrustModel", "erase", "(I)V"⟩, 75) := ⟨⟨by decide +kernel, by decide +kernel⟩, List.mem_of_getElem? (i := 1000) (by decide +kernel), List.mem_of_getElem? (i := 1338) (by decide +kernel), List.mem_of_getElem? (i := 1339) (by decide +kernel)⟩
theorem lw_p47 : lw_okq (⟨"FlashTrustModel", "readDoc", "()Z"⟩, 75) := ⟨⟨by decide +kernel, by decide +kernel⟩, List.mem_of_getElem? (i := 1000) (by decide +kernel), List.mem_of_getElem? (i := 1342) (by decide +kernel), List.mem_of_getElem? (i := 1343) (by decide +kernel)⟩
def lw_privs_3 : List (MethodName × Nat) := [(⟨"FlashTrustModel", "layState", "()V"⟩, 75), (⟨"FlashTrustModel", "isState", "(I)Z"⟩, 75), (⟨"FlashTrustModel", "wide", "(II)I"⟩, 75), (⟨"FlashTrustModel", "checkOf", "(II)I"⟩, 75), (⟨"FlashTrustModel", "checkNow", "()I"⟩, 75), (⟨"FlashTrustModel", "six", "(I)J"⟩, 75), (⟨"FlashTrustModel", "layPage", "(I)V"⟩, 75), (⟨"FlashTrustModel", "put", "(JI)V"⟩, 75), (⟨"FlashTrustModel", "takePiece", "(I)I"⟩, 75), (⟨"FlashTrustModel", "fail", "(I)I"⟩, 75), (⟨"FlashTrustModel", "writePage", "(I)V"⟩, 75), (⟨"FlashTrustModel", "hasPower", "()Z"⟩, 75), (⟨"FlashTrustModel", "writeState", "(I)V"⟩, 75), (⟨"FlashTrustModel", "isErased", "(I)Z"⟩, 75), (⟨"FlashTrustModel", "erase", "(I)V"⟩, 75), (⟨"FlashTrustModel", "readDoc", "()Z"⟩, 75)]
theorem lw_r3 : ∀ q ∈ lw_privs_3, lw_okq q := List.forall_mem_cons.mpr ⟨lw_p32, List.forall_mem_cons.mpr ⟨lw_p33, List.forall_mem_cons.mpr ⟨lw_p34, List.forall_mem_cons.mpr ⟨lw_p35, List.forall_mem_cons.mpr ⟨lw_p36, List.forall_mem_cons.mpr ⟨lw_p37, List.forall_mem_cons.mpr ⟨lw_p38, List.forall_mem_cons.mpr ⟨lw_p39, List.forall_mem_cons.mpr ⟨lw_p40, List.forall_mem_cons.mpr ⟨lw_p41, List.forall_mem_cons.mpr ⟨lw_p42, List.forall_mem_cons.mpr ⟨lw_p43, List.forall_mem_cons.mpr ⟨lw_p44, List.forall_mem_cons.mpr ⟨lw_p45, List.forall_mem_cons.mpr ⟨lw_p46, List.forall_mem_cons.mpr ⟨lw_p47, fun _ h => absurd h List.not_mem_nil⟩⟩⟩⟩⟩⟩⟩⟩⟩⟩⟩⟩⟩⟩⟩⟩
theorem lw_p48 : lw_okq (⟨"FlashTrustModel", "docWide", "(II)I"⟩, 75) := ⟨⟨by decide +kernel, by decide +kernel⟩, List.mem_of_getElem? (i := 1000) (by decide +kernel), List.mem_of_getElem? (i := 1346) (by decide +kernel), List.mem_of_getElem? (i := 1347) (by decide +kernel)⟩
theorem lw_p49 : lw_okq (⟨"FlashTrustModel", "keysAt", "(II)I"⟩, 75) := ⟨⟨by decide +kernel, by decide +kernel⟩, List.mem_of_getElem? (i := 1000) (by decide +kernel), List.mem_of_getElem? (i := 1350) (by decide +kernel), List.mem_of_getElem? (i := 1351) (by decide +kernel)⟩
theorem lw_p50 : lw_okq (⟨"FlashTrustModel", "readRoles", "()Z"⟩, 75) := ⟨⟨by decide +kernel, by decide +kernel⟩, List.mem_of_getElem? (i := 1000) (by decide +kernel), List.mem_of_getElem? (i := 1355) (by decide +kernel), List.mem_of_getElem? (i := 1356) (by decide +kernel)⟩
theorem lw_p51 : lw_okq (⟨"FlashTrustModel", "readImages", "()Z"⟩, 75) := ⟨⟨by decide +kernel, by decide +kernel⟩, List.mem_of_getElem? (i := 1000) (by decide +kernel), List.mem_of_getElem? (i := 1359) (by decide +kernel), List.mem_of_getElem? (i := 1360) (by decide +kernel)⟩
theorem lw_p52 : lw_okq (⟨"FlashTrustModel", "docLong", "(I)J"⟩, 75) := ⟨⟨by decide +kernel, by decide +kernel⟩, List.mem_of_getElem? (i := 1000) (by decide +kernel), List.mem_of_getElem? (i := 1363) (by decide +kernel), List.mem_of_getElem? (i := 1364) (by decide +kernel)⟩
theorem lw_p53 : lw_okq (⟨"FlashTrustModel", "takeRoot", "()I"⟩, 75) := ⟨⟨by decide +kernel, by decide +kernel⟩, List.mem_of_getElem? (i := 1000) (by decide +kernel), List.mem_of_getElem? (i := 1367) (by decide +kernel), List.mem_of_getElem? (i := 1368) (by decide +kernel)⟩
theorem lw_p54 : lw_okq (⟨"FlashTrustModel", "takeTrusted", "(I)Z"⟩, 75) := ⟨⟨by decide +kernel, by decide +kernel⟩, List.mem_of_getElem? (i := 1000) (by decide +kernel), List.mem_of_getElem? (i := 1371) (by decide +kernel), List.mem_of_getElem? (i := 1372) (by decide +kernel)⟩
theorem lw_p55 : lw_okq (⟨"FlashTrustModel", "findRecord", "(I)V"⟩, 75) := ⟨⟨by decide +kernel, by decide +kernel⟩, List.mem_of_getElem? (i := 1000) (by decide +kernel), List.mem_of_getElem? (i := 1375) (by decide +kernel), List.mem_of_getElem? (i := 1376) (by decide +kernel)⟩
theorem lw_p56 : lw_okq (⟨"FlashTrustModel", "isRecord", "(III)Z"⟩, 75) := ⟨⟨by decide +kernel, by decide +kernel⟩, List.mem_of_getElem? (i := 1000) (by decide +kernel), List.mem_of_getElem? (i := 1379) (by decide +kernel), List.mem_of_getElem? (i := 1380) (by decide +kernel)⟩
theorem lw_p57 : lw_okq (⟨"FlashTrustModel", "takeCame", "()V"⟩, 75) := ⟨⟨by decide +kernel, by decide +kernel⟩, List.mem_of_getElem? (i := 1000) (by decide +kernel), List.mem_of_getElem? (i := 1384) (by decide +kernel), List.mem_of_getElem? (i := 1385) (by decide +kernel)⟩
theorem lw_p58 : lw_okq (⟨"FlashTrustModel", "has", "(II)Z"⟩, 75) := ⟨⟨by decide +kernel, by decide +kernel⟩, List.mem_of_getElem? (i := 1000) (by decide +kernel), List.mem_of_getElem? (i := 1388) (by decide +kernel), List.mem_of_getElem? (i := 1389) (by decide +kernel)⟩
theorem lw_p59 : lw_okq (⟨"FlashTrustModel", "bodyDigest", "()J"⟩, 75) := ⟨⟨by decide +kernel, by decide +kernel⟩, List.mem_of_getElem? (i := 1000) (by decide +kernel), List.mem_of_getElem? (i := 1392) (by decide +kernel), List.mem_of_getElem? (i := 1393) (by decide +kernel)⟩
theorem lw_p60 : lw_okq (⟨"FlashTrustModel", "hasSigned", "(IJ)Z"⟩, 75) := ⟨⟨by decide +kernel, by decide +kernel⟩, List.mem_of_getElem? (i := 1000) (by decide +kernel), List.mem_of_getElem? (i := 1396) (by decide +kernel), List.mem_of_getElem? (i := 1397) (by decide +kernel)⟩
theorem lw_p61 : lw_okq (⟨"FlashTrustModel", "dropTrusted", "(I)V"⟩, 75) := ⟨⟨by decide +kernel, by decide +kernel⟩, List.mem_of_getElem? (i := 1000) (by decide +kernel), List.mem_of_getElem? (i := 1400) (by decide +kernel), List.mem_of_getElem? (i := 1401) (by decide +kernel)⟩
theorem lw_p62 : lw_okq (⟨"FlashTrustModel", "keepRecord", "(II)V"⟩, 75) := ⟨⟨by decide +kernel, by decide +kernel⟩, List.mem_of_getElem? (i := 1000) (by decide +kernel), List.mem_of_getElem? (i := 1404) (by decide +kernel), List.mem_of_getElem? (i := 1405) (by decide +kernel)⟩
theorem lw_p63 : lw_okq (⟨"FlashTrustModel", "keepDoc", "()V"⟩, 75) := ⟨⟨by decide +kernel, by decide +kernel⟩, List.mem_of_getElem? (i := 1000) (by decide +kernel), List.mem_of_getElem? (i := 1408) (by decide +kernel), List.mem_of_getElem? (i := 1409) (by decide +kernel)⟩
def lw_privs_4 : List (MethodName × Nat) := [(⟨"FlashTrustModel", "docWide", "(II)I"⟩, 75), (⟨"FlashTrustModel", "keysAt", "(II)I"⟩, 75), (⟨"FlashTrustModel", "readRoles", "()Z"⟩, 75), (⟨"FlashTrustModel", "readImages", "()Z"⟩, 75), (⟨"FlashTrustModel", "docLong", "(I)J"⟩, 75), (⟨"FlashTrustModel", "takeRoot", "()I"⟩, 75), (⟨"FlashTrustModel", "takeTrusted", "(I)Z"⟩, 75), (⟨"FlashTrustModel", "findRecord", "(I)V"⟩, 75), (⟨"FlashTrustModel", "isRecord", "(III)Z"⟩, 75), (⟨"FlashTrustModel", "takeCame", "()V"⟩, 75), (⟨"FlashTrustModel", "has", "(II)Z"⟩, 75), (⟨"FlashTrustModel", "bodyDigest", "()J"⟩, 75), (⟨"FlashTrustModel", "hasSigned", "(IJ)Z"⟩, 75), (⟨"FlashTrustModel", "dropTrusted", "(I)V"⟩, 75), (⟨"FlashTrustModel", "keepRecord", "(II)V"⟩, 75), (⟨"FlashTrustModel", "keepDoc", "()V"⟩, 75)]
theorem lw_r4 : ∀ q ∈ lw_privs_4, lw_okq q := List.forall_mem_cons.mpr ⟨lw_p48, List.forall_mem_cons.mpr ⟨lw_p49, List.forall_mem_cons.mpr ⟨lw_p50, List.forall_mem_cons.mpr ⟨lw_p51, List.forall_mem_cons.mpr ⟨lw_p52, List.forall_mem_cons.mpr ⟨lw_p53, List.forall_mem_cons.mpr ⟨lw_p54, List.forall_mem_cons.mpr ⟨lw_p55, List.forall_mem_cons.mpr ⟨lw_p56, List.forall_mem_cons.mpr ⟨lw_p57, List.forall_mem_cons.mpr ⟨lw_p58, List.forall_mem_cons.mpr ⟨lw_p59, List.forall_mem_cons.mpr ⟨lw_p60, List.forall_mem_cons.mpr ⟨lw_p61, List.forall_mem_cons.mpr ⟨lw_p62, List.forall_mem_cons.mpr ⟨lw_p63, fun _ h => absurd h List.not_mem_nil⟩⟩⟩⟩⟩⟩⟩⟩⟩⟩⟩⟩⟩⟩⟩⟩
theorem lw_p64 : lw_okq (⟨"FlashTrustModel", "takeTime", "()I"⟩, 75) := ⟨⟨by decide +kernel, by decide +kernel⟩, List.mem_of_getElem? (i := 1000) (by decide +kernel), List.mem_of_getElem? (i := 1412) (by decide +kernel), List.mem_of_getElem? (i := 1413) (by decide +kernel)⟩
theorem lw_p65 : lw_okq (⟨"FlashTrustModel", "takeRole", "(I)V"⟩, 75) := ⟨⟨by decide +kernel, by decide +kernel⟩, List.mem_of_getElem? (i := 1000) (by decide +kernel), List.mem_of_getElem? (i := 1416) (by decide +kernel), List.mem_of_getElem? (i := 1417) (by decide +kernel)⟩
theorem lw_p66 : lw_okq (⟨"FlashTrustModel", "takeWas", "(I)V"⟩, 75) := ⟨⟨by decide +kernel, by decide +kernel⟩, List.mem_of_getElem? (i := 1000) (by decide +kernel), List.mem_of_getElem? (i := 1420) (by decide +kernel), List.mem_of_getElem? (i := 1421) (by decide +kernel)⟩
theorem lw_p67 : lw_okq (⟨"FlashTrustModel", "keepOther", "(I)V"⟩, 75) := ⟨⟨by decide +kernel, by decide +kernel⟩, List.mem_of_getElem? (i := 1000) (by decide +kernel), List.mem_of_getElem? (i := 1424) (by decide +kernel), List.mem_of_getElem? (i := 1425) (by decide +kernel)⟩
theorem lw_p68 : lw_okq (⟨"FlashTrustModel", "goToList", "()I"⟩, 75) := ⟨⟨by decide +kernel, by decide +kernel⟩, List.mem_of_getElem? (i := 1000) (by decide +kernel), List.mem_of_getElem? (i := 1428) (by decide +kernel), List.mem_of_getElem? (i := 1429) (by decide +kernel)⟩
theorem lw_p69 : lw_okq (⟨"FlashTrustModel", "saveCame", "()V"⟩, 75) := ⟨⟨by decide +kernel, by decide +kernel⟩, List.mem_of_getElem? (i := 1000) (by decide +kernel), List.mem_of_getElem? (i := 1432) (by decide +kernel), List.mem_of_getElem? (i := 1433) (by decide +kernel)⟩
theorem lw_p70 : lw_okq (⟨"FlashTrustModel", "takeList", "()I"⟩, 75) := ⟨⟨by decide +kernel, by decide +kernel⟩, List.mem_of_getElem? (i := 1000) (by decide +kernel), List.mem_of_getElem? (i := 1436) (by decide +kernel), List.mem_of_getElem? (i := 1437) (by decide +kernel)⟩
theorem lw_p71 : lw_okq (⟨"FlashTrustModel", "goToImages", "()I"⟩, 75) := ⟨⟨by decide +kernel, by decide +kernel⟩, List.mem_of_getElem? (i := 1000) (by decide +kernel), List.mem_of_getElem? (i := 1440) (by decide +kernel), List.mem_of_getElem? (i := 1441) (by decide +kernel)⟩
theorem lw_p72 : lw_okq (⟨"FlashTrustModel", "takeImages", "()I"⟩, 75) := ⟨⟨by decide +kernel, by decide +kernel⟩, List.mem_of_getElem? (i := 1000) (by decide +kernel), List.mem_of_getElem? (i := 1444) (by decide +kernel), List.mem_of_getElem? (i := 1445) (by decide +kernel)⟩
theorem lw_p73 : lw_okq (⟨"FlashTrustModel", "goToPieces", "()I"⟩, 75) := ⟨⟨by decide +kernel, by decide +kernel⟩, List.mem_of_getElem? (i := 1000) (by decide +kernel), List.mem_of_getElem? (i := 1448) (by decide +kernel), List.mem_of_getElem? (i := 1449) (by decide +kernel)⟩
theorem lw_p74 : lw_okq (⟨"FlashTrustModel", "runConfirmed", "()V"⟩, 75) := ⟨⟨by decide +kernel, by decide +kernel⟩, List.mem_of_getElem? (i := 1000) (by decide +kernel), List.mem_of_getElem? (i := 1472) (by decide +kernel), List.mem_of_getElem? (i := 1473) (by decide +kernel)⟩
theorem lw_p75 : lw_okq (⟨"FlashTrustModel", "draftPut", "(JI)V"⟩, 75) := ⟨⟨by decide +kernel, by decide +kernel⟩, List.mem_of_getElem? (i := 1000) (by decide +kernel), List.mem_of_getElem? (i := 1505) (by decide +kernel), List.mem_of_getElem? (i := 1506) (by decide +kernel)⟩
theorem lw_p76 : lw_okq (⟨"FlashTrustModel", "draftKeysOf", "(I)V"⟩, 75) := ⟨⟨by decide +kernel, by decide +kernel⟩, List.mem_of_getElem? (i := 1000) (by decide +kernel), List.mem_of_getElem? (i := 1512) (by decide +kernel), List.mem_of_getElem? (i := 1513) (by decide +kernel)⟩
theorem lw_p77 : lw_okq (⟨"FlashTrustModel", "imageByte", "(II)I"⟩, 75) := ⟨⟨by decide +kernel, by decide +kernel⟩, List.mem_of_getElem? (i := 1000) (by decide +kernel), List.mem_of_getElem? (i := 1516) (by decide +kernel), List.mem_of_getElem? (i := 1517) (by decide +kernel)⟩
theorem lw_p78 : lw_okq (⟨"FlashTrustModel", "draftDigest", "()J"⟩, 75) := ⟨⟨by decide +kernel, by decide +kernel⟩, List.mem_of_getElem? (i := 1000) (by decide +kernel), List.mem_of_getElem? (i := 1520) (by decide +kernel), List.mem_of_getElem? (i := 1521) (by decide +kernel)⟩
def lw_privs_5 : List (MethodName × Nat) := [(⟨"FlashTrustModel", "takeTime", "()I"⟩, 75), (⟨"FlashTrustModel", "takeRole", "(I)V"⟩, 75), (⟨"FlashTrustModel", "takeWas", "(I)V"⟩, 75), (⟨"FlashTrustModel", "keepOther", "(I)V"⟩, 75), (⟨"FlashTrustModel", "goToList", "()I"⟩, 75), (⟨"FlashTrustModel", "saveCame", "()V"⟩, 75), (⟨"FlashTrustModel", "takeList", "()I"⟩, 75), (⟨"FlashTrustModel", "goToImages", "()I"⟩, 75), (⟨"FlashTrustModel", "takeImages", "()I"⟩, 75), (⟨"FlashTrustModel", "goToPieces", "()I"⟩, 75), (⟨"FlashTrustModel", "runConfirmed", "()V"⟩, 75), (⟨"FlashTrustModel", "draftPut", "(JI)V"⟩, 75), (⟨"FlashTrustModel", "draftKeysOf", "(I)V"⟩, 75), (⟨"FlashTrustModel", "imageByte", "(II)I"⟩, 75), (⟨"FlashTrustModel", "draftDigest", "()J"⟩, 75)]
theorem lw_r5 : ∀ q ∈ lw_privs_5, lw_okq q := List.forall_mem_cons.mpr ⟨lw_p64, List.forall_mem_cons.mpr ⟨lw_p65, List.forall_mem_cons.mpr ⟨lw_p66, List.forall_mem_cons.mpr ⟨lw_p67, List.forall_mem_cons.mpr ⟨lw_p68, List.forall_mem_cons.mpr ⟨lw_p69, List.forall_mem_cons.mpr ⟨lw_p70, List.forall_mem_cons.mpr ⟨lw_p71, List.forall_mem_cons.mpr ⟨lw_p72, List.forall_mem_cons.mpr ⟨lw_p73, List.forall_mem_cons.mpr ⟨lw_p74, List.forall_mem_cons.mpr ⟨lw_p75, List.forall_mem_cons.mpr ⟨lw_p76, List.forall_mem_cons.mpr ⟨lw_p77, List.forall_mem_cons.mpr ⟨lw_p78, fun _ h => absurd h List.not_mem_nil⟩⟩⟩⟩⟩⟩⟩⟩⟩⟩⟩⟩⟩⟩⟩
def lw_privs : List (MethodName × Nat) := lw_privs_1 ++ (lw_privs_2 ++ (lw_privs_3 ++ (lw_privs_4 ++ (lw_privs_5))))
def lw_tbl : List Cond := k2_sels lw_privs ++ tables_1
theorem lw_privs_ok : ∀ q ∈ lw_privs, lw_okq q := by
  show ∀ q ∈ lw_privs_1 ++ (lw_privs_2 ++ (lw_privs_3 ++ (lw_privs_4 ++ (lw_privs_5)))), lw_okq q
  exact List.forall_mem_append.mpr ⟨lw_r1, List.forall_mem_append.mpr ⟨lw_r2, List.forall_mem_append.mpr ⟨lw_r3, List.forall_mem_append.mpr ⟨lw_r4, lw_r5⟩⟩⟩⟩
-- ===== end of PART A; then your names; then what follows =====
end
section
def RX0 : String := "FlashTrust$Entry"
def TX0 : u_T := fun k => match k with
  | 0 => ("FlashTrust$Entry", "flash", "LFlashTrust$Flash;", true)
  | 1 => ("FlashTrust$Entry", "role", "I", true)
  | 2 => ("FlashTrust$Entry", "sector", "I", true)
  | 3 => ("FlashTrust$Entry", "paper", "LFlashTrust$Paper;", true)
  | 4 => ("FlashTrust$Entry", "number", "I", false)
  | _ => ("FlashTrust$Entry", "holds", "Z", false)
def tyX0 : Nat → FieldType := fun k => match k with
  | 0 => .object "FlashTrust$Flash"
  | 1 => .int
  | 2 => .int
  | 3 => .object "FlashTrust$Paper"
  | 4 => .int
  | _ => .boolean
theorem nmX0 : ∀ a, a < 6 → ∀ b, b < 6 → a ≠ b → (TX0 a).2.1 ≠ (TX0 b).2.1 := by decide +kernel
theorem tyX0_ok : ∀ k, k < 6 → parseFieldDescriptor (TX0 k).2.2.1 = some (tyX0 k) := by decide +kernel
abbrev cX0_init : ByteArray := prog_2_method_1_code
def yX0_init : MethodName := ⟨RX0, "<init>", "(LFlashTrust$Flash;II)V"⟩
abbrev cX0_look : ByteArray := prog_2_method_2_code
def yX0_look : MethodName := ⟨RX0, "look", "()V"⟩
def RX1 : String := "FlashTrust$Flash"
def TX1 : u_T := fun k => match k with
  | 0 => ("FlashTrust$Flash", "cells", "LFlashTrust$Row;", true)
  | 1 => ("FlashTrust$Flash", "writings", "I", false)
  | 2 => ("FlashTrust$Flash", "erasings", "I", false)
  | 3 => ("FlashTrust$Flash", "left", "I", false)
  | 4 => ("FlashTrust$Flash", "mask", "I", false)
  | _ => ("FlashTrust$Flash", "down", "Z", false)
def tyX1 : Nat → FieldType := fun k => match k with
  | 0 => .object "FlashTrust$Row"
  | 1 => .int
  | 2 => .int
  | 3 => .int
  | 4 => .int
  | _ => .boolean
theorem nmX1 : ∀ a, a < 6 → ∀ b, b < 6 → a ≠ b → (TX1 a).2.1 ≠ (TX1 b).2.1 := by decide +kernel
theorem tyX1_ok : ∀ k, k < 6 → parseFieldDescriptor (TX1 k).2.2.1 = some (tyX1 k) := by decide +kernel
abbrev cX1_init : ByteArray := prog_3_method_1_code
def yX1_init : MethodName := ⟨RX1, "<init>", "(I)V"⟩
abbrev cX1_isDown : ByteArray := prog_3_method_2_code
def yX1_isDown : MethodName := ⟨RX1, "isDown", "()Z"⟩
abbrev cX1_switchOn : ByteArray := prog_3_method_3_code
def yX1_switchOn : MethodName := ⟨RX1, "switchOn", "()V"⟩
abbrev cX1_tellCut : ByteArray := prog_3_method_4_code
def yX1_tellCut : MethodName := ⟨RX1, "tellCut", "(II)V"⟩
abbrev cX1_slotStart : ByteArray := prog_3_method_5_code
def yX1_slotStart : MethodName := ⟨RX1, "slotStart", "(I)I"⟩
abbrev cX1_write : ByteArray := prog_3_method_6_code
def yX1_write : MethodName := ⟨RX1, "write", "(ILFlashTrust$Row;I)V"⟩
abbrev cX1_burn : ByteArray := prog_3_method_7_code
def yX1_burn : MethodName := ⟨RX1, "burn", "(ILFlashTrust$Row;I)V"⟩
abbrev cX1_erase : ByteArray := prog_3_method_8_code
def yX1_erase : MethodName := ⟨RX1, "erase", "(I)V"⟩
abbrev cX1_powerHolds : ByteArray := prog_3_method_9_code
def yX1_powerHolds : MethodName := ⟨RX1, "powerHolds", "()Z"⟩
abbrev cX1_writeAll : ByteArray := prog_3_method_10_code
def yX1_writeAll : MethodName := ⟨RX1, "writeAll", "(ILFlashTrust$Row;)V"⟩
abbrev cX1_eraseSlot : ByteArray := prog_3_method_11_code
def yX1_eraseSlot : MethodName := ⟨RX1, "eraseSlot", "(I)V"⟩
abbrev cX1_isBlank : ByteArray := prog_3_method_12_code
def yX1_isBlank : MethodName := ⟨RX1, "isBlank", "(I)Z"⟩
abbrev cX1_programHash : ByteArray := prog_3_method_13_code
def yX1_programHash : MethodName := ⟨RX1, "programHash", "(II)J"⟩
abbrev cX1_lowest : ByteArray := prog_3_method_14_code
def yX1_lowest : MethodName := ⟨RX1, "lowest", "(J)J"⟩
abbrev cX1_lastWrittenPiece : ByteArray := prog_3_method_15_code
def yX1_lastWrittenPiece : MethodName := ⟨RX1, "lastWrittenPiece", "(II)I"⟩
def RX2 : String := "FlashTrust$Loader"
def TX2 : u_T := fun k => match k with
  | 0 => ("FlashTrust$Loader", "flash", "LFlashTrust$Flash;", true)
  | 1 => ("FlashTrust$Loader", "states", "LFlashTrust$States;", true)
  | 2 => ("FlashTrust$Loader", "running", "I", false)
  | _ => ("FlashTrust$Loader", "onTrial", "Z", false)
def tyX2 : Nat → FieldType := fun k => match k with
  | 0 => .object "FlashTrust$Flash"
  | 1 => .object "FlashTrust$States"
  | 2 => .int
  | _ => .boolean
theorem nmX2 : ∀ a, a < 4 → ∀ b, b < 4 → a ≠ b → (TX2 a).2.1 ≠ (TX2 b).2.1 := by decide +kernel
theorem tyX2_ok : ∀ k, k < 4 → parseFieldDescriptor (TX2 k).2.2.1 = some (tyX2 k) := by decide +kernel
abbrev cX2_init : ByteArray := prog_4_method_1_code
def yX2_init : MethodName := ⟨RX2, "<init>", "(LFlashTrust$Flash;LFlashTrust$States;)V"⟩
abbrev cX2_isSettled : ByteArray := prog_4_method_2_code
def yX2_isSettled : MethodName := ⟨RX2, "isSettled", "()Z"⟩
abbrev cX2_halt : ByteArray := prog_4_method_3_code
def yX2_halt : MethodName := ⟨RX2, "halt", "()V"⟩
abbrev cX2_start : ByteArray := prog_4_method_4_code
def yX2_start : MethodName := ⟨RX2, "start", "()I"⟩
abbrev cX2_startTrial : ByteArray := prog_4_method_5_code
def yX2_startTrial : MethodName := ⟨RX2, "startTrial", "()I"⟩
abbrev cX2_startConfirmed : ByteArray := prog_4_method_6_code
def yX2_startConfirmed : MethodName := ⟨RX2, "startConfirmed", "()I"⟩
abbrev cX2_confirm : ByteArray := prog_4_method_7_code
def yX2_confirm : MethodName := ⟨RX2, "confirm", "()I"⟩
abbrev cX2_reject : ByteArray := prog_4_method_8_code
def yX2_reject : MethodName := ⟨RX2, "reject", "()I"⟩
def RX3 : String := "FlashTrust$Maker"
def TX3 : u_T := fun k => match k with
  | 0 => ("FlashTrust$Maker", "signatures", "LFlashTrust$Signatures;", true)
  | 1 => ("FlashTrust$Maker", "roleKeys", "[I", true)
  | 2 => ("FlashTrust$Maker", "thresholds", "[I", true)
  | 3 => ("FlashTrust$Maker", "images", "I", false)
  | 4 => ("FlashTrust$Maker", "versions", "[I", true)
  | 5 => ("FlashTrust$Maker", "lengths", "[I", true)
  | 6 => ("FlashTrust$Maker", "seeds", "[I", true)
  | 7 => ("FlashTrust$Maker", "hashes", "[J", true)
  | 8 => ("FlashTrust$Maker", "program", "LFlashTrust$Row;", true)
  | 9 => ("FlashTrust$Maker", "body", "LFlashTrust$Row;", true)
  | 10 => ("FlashTrust$Maker", "draftRole", "I", false)
  | 11 => ("FlashTrust$Maker", "draftKeys", "I", false)
  | 12 => ("FlashTrust$Maker", "lastVersions", "[I", true)
  | _ => ("FlashTrust$Maker", "lastHashes", "[J", true)
def tyX3 : Nat → FieldType := fun k => match k with
  | 0 => .object "FlashTrust$Signatures"
  | 1 => .array .int
  | 2 => .array .int
  | 3 => .int
  | 4 => .array .int
  | 5 => .array .int
  | 6 => .array .int
  | 7 => .array .long
  | 8 => .object "FlashTrust$Row"
  | 9 => .object "FlashTrust$Row"
  | 10 => .int
  | 11 => .int
  | 12 => .array .int
  | _ => .array .long
theorem nmX3 : ∀ a, a < 14 → ∀ b, b < 14 → a ≠ b → (TX3 a).2.1 ≠ (TX3 b).2.1 := by decide +kernel
theorem tyX3_ok : ∀ k, k < 14 → parseFieldDescriptor (TX3 k).2.2.1 = some (tyX3 k) := by decide +kernel
abbrev cX3_init : ByteArray := prog_5_method_1_code
def yX3_init : MethodName := ⟨RX3, "<init>", "(LFlashTrust$Signatures;)V"⟩
abbrev cX3_planRole : ByteArray := prog_5_method_2_code
def yX3_planRole : MethodName := ⟨RX3, "planRole", "(III)I"⟩
abbrev cX3_addImage : ByteArray := prog_5_method_3_code
def yX3_addImage : MethodName := ⟨RX3, "addImage", "(III)I"⟩
abbrev cX3_addProgram : ByteArray := prog_5_method_4_code
def yX3_addProgram : MethodName := ⟨RX3, "addProgram", "(LFlashTrust$Row;III)V"⟩
abbrev cX3_dropImages : ByteArray := prog_5_method_5_code
def yX3_dropImages : MethodName := ⟨RX3, "dropImages", "()I"⟩
abbrev cX3_compose : ByteArray := prog_5_method_6_code
def yX3_compose : MethodName := ⟨RX3, "compose", "(III)I"⟩
abbrev cX3_addRoles : ByteArray := prog_5_method_7_code
def yX3_addRoles : MethodName := ⟨RX3, "addRoles", "()V"⟩
abbrev cX3_addImages : ByteArray := prog_5_method_8_code
def yX3_addImages : MethodName := ⟨RX3, "addImages", "()V"⟩
abbrev cX3_addKey : ByteArray := prog_5_method_9_code
def yX3_addKey : MethodName := ⟨RX3, "addKey", "(I)I"⟩
abbrev cX3_copyDraft : ByteArray := prog_5_method_10_code
def yX3_copyDraft : MethodName := ⟨RX3, "copyDraft", "(LFlashTrust$Row;)I"⟩
abbrev cX3_copyPiece : ByteArray := prog_5_method_11_code
def yX3_copyPiece : MethodName := ⟨RX3, "copyPiece", "(IILFlashTrust$Row;)I"⟩
def RX4 : String := "FlashTrust$Paper"
def TX4 : u_T := fun k => match k with
  | 0 => ("FlashTrust$Paper", "bytes", "LFlashTrust$Row;", true)
  | 1 => ("FlashTrust$Paper", "role", "I", false)
  | 2 => ("FlashTrust$Paper", "version", "I", false)
  | 3 => ("FlashTrust$Paper", "end", "J", false)
  | 4 => ("FlashTrust$Paper", "keys", "I", false)
  | 5 => ("FlashTrust$Paper", "bodyHash", "J", false)
  | 6 => ("FlashTrust$Paper", "bodyLength", "I", false)
  | 7 => ("FlashTrust$Paper", "roleKeys", "[I", true)
  | 8 => ("FlashTrust$Paper", "thresholds", "[I", true)
  | 9 => ("FlashTrust$Paper", "toldVersion", "I", false)
  | 10 => ("FlashTrust$Paper", "toldHash", "J", false)
  | 11 => ("FlashTrust$Paper", "images", "I", false)
  | 12 => ("FlashTrust$Paper", "imageVersions", "[I", true)
  | 13 => ("FlashTrust$Paper", "imageLengths", "[I", true)
  | _ => ("FlashTrust$Paper", "imageHashes", "[J", true)
def tyX4 : Nat → FieldType := fun k => match k with
  | 0 => .object "FlashTrust$Row"
  | 1 => .int
  | 2 => .int
  | 3 => .long
  | 4 => .int
  | 5 => .long
  | 6 => .int
  | 7 => .array .int
  | 8 => .array .int
  | 9 => .int
  | 10 => .long
  | 11 => .int
  | 12 => .array .int
  | 13 => .array .int
  | _ => .array .long
theorem nmX4 : ∀ a, a < 15 → ∀ b, b < 15 → a ≠ b → (TX4 a).2.1 ≠ (TX4 b).2.1 := by decide +kernel
theorem tyX4_ok : ∀ k, k < 15 → parseFieldDescriptor (TX4 k).2.2.1 = some (tyX4 k) := by decide +kernel
abbrev cX4_init : ByteArray := prog_6_method_1_code
def yX4_init : MethodName := ⟨RX4, "<init>", "()V"⟩
abbrev cX4_becomeFactoryRoot : ByteArray := prog_6_method_2_code
def yX4_becomeFactoryRoot : MethodName := ⟨RX4, "becomeFactoryRoot", "()V"⟩
abbrev cX4_read : ByteArray := prog_6_method_3_code
def yX4_read : MethodName := ⟨RX4, "read", "(LFlashTrust$Row;II)Z"⟩
abbrev cX4_readHead : ByteArray := prog_6_method_4_code
def yX4_readHead : MethodName := ⟨RX4, "readHead", "()Z"⟩
abbrev cX4_readKeys : ByteArray := prog_6_method_5_code
def yX4_readKeys : MethodName := ⟨RX4, "readKeys", "()Z"⟩
abbrev cX4_readRoot : ByteArray := prog_6_method_6_code
def yX4_readRoot : MethodName := ⟨RX4, "readRoot", "()Z"⟩
abbrev cX4_readTold : ByteArray := prog_6_method_7_code
def yX4_readTold : MethodName := ⟨RX4, "readTold", "()Z"⟩
abbrev cX4_readImages : ByteArray := prog_6_method_8_code
def yX4_readImages : MethodName := ⟨RX4, "readImages", "()Z"⟩
abbrev cX4_hasBodyOf : ByteArray := prog_6_method_9_code
def yX4_hasBodyOf : MethodName := ⟨RX4, "hasBodyOf", "(LFlashTrust$Paper;)Z"⟩
abbrev cX4_givesLike : ByteArray := prog_6_method_10_code
def yX4_givesLike : MethodName := ⟨RX4, "givesLike", "(LFlashTrust$Paper;I)Z"⟩
abbrev cX4_tell : ByteArray := prog_6_method_11_code
def yX4_tell : MethodName := ⟨RX4, "tell", "(II)I"⟩
abbrev cX4_isRole : ByteArray := prog_6_method_12_code
def yX4_isRole : MethodName := ⟨RX4, "isRole", "(I)Z"⟩
abbrev cX4_isImage : ByteArray := prog_6_method_13_code
def yX4_isImage : MethodName := ⟨RX4, "isImage", "(I)Z"⟩
def RX5 : String := "FlashTrust$Row"
def TX5 : u_T := fun k => match k with
  | 0 => ("FlashTrust$Row", "cells", "[I", true)
  | _ => ("FlashTrust$Row", "size", "I", false)
def tyX5 : Nat → FieldType := fun k => match k with
  | 0 => .array .int
  | _ => .int
theorem nmX5 : ∀ a, a < 2 → ∀ b, b < 2 → a ≠ b → (TX5 a).2.1 ≠ (TX5 b).2.1 := by decide +kernel
theorem tyX5_ok : ∀ k, k < 2 → parseFieldDescriptor (TX5 k).2.2.1 = some (tyX5 k) := by decide +kernel
abbrev cX5_init : ByteArray := prog_7_method_1_code
def yX5_init : MethodName := ⟨RX5, "<init>", "(I)V"⟩
abbrev cX5_size : ByteArray := prog_7_method_2_code
def yX5_size : MethodName := ⟨RX5, "size", "()I"⟩
abbrev cX5_has : ByteArray := prog_7_method_3_code
def yX5_has : MethodName := ⟨RX5, "has", "(I)Z"⟩
abbrev cX5_at : ByteArray := prog_7_method_4_code
def yX5_at : MethodName := ⟨RX5, "at", "(I)I"⟩
abbrev cX5_set : ByteArray := prog_7_method_5_code
def yX5_set : MethodName := ⟨RX5, "set", "(II)V"⟩
abbrev cX5_empty : ByteArray := prog_7_method_6_code
def yX5_empty : MethodName := ⟨RX5, "empty", "()V"⟩
abbrev cX5_shorten : ByteArray := prog_7_method_7_code
def yX5_shorten : MethodName := ⟨RX5, "shorten", "(I)V"⟩
abbrev cX5_add : ByteArray := prog_7_method_8_code
def yX5_add : MethodName := ⟨RX5, "add", "(I)V"⟩
abbrev cX5_addNumber : ByteArray := prog_7_method_9_code
def yX5_addNumber : MethodName := ⟨RX5, "addNumber", "(JI)V"⟩
abbrev cX5_addFrom : ByteArray := prog_7_method_10_code
def yX5_addFrom : MethodName := ⟨RX5, "addFrom", "(LFlashTrust$Row;II)V"⟩
abbrev cX5_number : ByteArray := prog_7_method_11_code
def yX5_number : MethodName := ⟨RX5, "number", "(II)J"⟩
abbrev cX5_keyBits : ByteArray := prog_7_method_12_code
def yX5_keyBits : MethodName := ⟨RX5, "keyBits", "(II)I"⟩
abbrev cX5_addKeys : ByteArray := prog_7_method_13_code
def yX5_addKeys : MethodName := ⟨RX5, "addKeys", "(I)V"⟩
abbrev cX5_hash : ByteArray := prog_7_method_14_code
def yX5_hash : MethodName := ⟨RX5, "hash", "(II)J"⟩
abbrev cX5_checkOf : ByteArray := prog_7_method_15_code
def yX5_checkOf : MethodName := ⟨RX5, "checkOf", "(J)J"⟩
def RX6 : String := "FlashTrust$Shelf"
def TX6 : u_T := fun k => match k with
  | 0 => ("FlashTrust$Shelf", "flash", "LFlashTrust$Flash;", true)
  | 1 => ("FlashTrust$Shelf", "first", "LFlashTrust$Entry;", true)
  | 2 => ("FlashTrust$Shelf", "second", "LFlashTrust$Entry;", true)
  | 3 => ("FlashTrust$Shelf", "factory", "LFlashTrust$Paper;", true)
  | 4 => ("FlashTrust$Shelf", "hasFactory", "Z", true)
  | _ => ("FlashTrust$Shelf", "kept", "LFlashTrust$Row;", true)
def tyX6 : Nat → FieldType := fun k => match k with
  | 0 => .object "FlashTrust$Flash"
  | 1 => .object "FlashTrust$Entry"
  | 2 => .object "FlashTrust$Entry"
  | 3 => .object "FlashTrust$Paper"
  | 4 => .boolean
  | _ => .object "FlashTrust$Row"
theorem nmX6 : ∀ a, a < 6 → ∀ b, b < 6 → a ≠ b → (TX6 a).2.1 ≠ (TX6 b).2.1 := by decide +kernel
theorem tyX6_ok : ∀ k, k < 6 → parseFieldDescriptor (TX6 k).2.2.1 = some (tyX6 k) := by decide +kernel
abbrev cX6_init : ByteArray := prog_8_method_1_code
def yX6_init : MethodName := ⟨RX6, "<init>", "(LFlashTrust$Flash;I)V"⟩
abbrev cX6_secondCounts : ByteArray := prog_8_method_2_code
def yX6_secondCounts : MethodName := ⟨RX6, "secondCounts", "()Z"⟩
abbrev cX6_counting : ByteArray := prog_8_method_3_code
def yX6_counting : MethodName := ⟨RX6, "counting", "()LFlashTrust$Entry;"⟩
abbrev cX6_number : ByteArray := prog_8_method_4_code
def yX6_number : MethodName := ⟨RX6, "number", "()I"⟩
abbrev cX6_holds : ByteArray := prog_8_method_5_code
def yX6_holds : MethodName := ⟨RX6, "holds", "()Z"⟩
abbrev cX6_paper : ByteArray := prog_8_method_6_code
def yX6_paper : MethodName := ⟨RX6, "paper", "()LFlashTrust$Paper;"⟩
abbrev cX6_holdsBodyOf : ByteArray := prog_8_method_7_code
def yX6_holdsBodyOf : MethodName := ⟨RX6, "holdsBodyOf", "(LFlashTrust$Paper;)Z"⟩
abbrev cX6_keep : ByteArray := prog_8_method_8_code
def yX6_keep : MethodName := ⟨RX6, "keep", "(LFlashTrust$Row;)V"⟩
def RX7 : String := "FlashTrust$Signatures"
def TX7 : u_T := fun k => match k with
  | 0 => ("FlashTrust$Signatures", "keys", "[I", true)
  | 1 => ("FlashTrust$Signatures", "hashes", "[J", true)
  | _ => ("FlashTrust$Signatures", "count", "I", false)
def tyX7 : Nat → FieldType := fun k => match k with
  | 0 => .array .int
  | 1 => .array .long
  | _ => .int
theorem nmX7 : ∀ a, a < 3 → ∀ b, b < 3 → a ≠ b → (TX7 a).2.1 ≠ (TX7 b).2.1 := by decide +kernel
theorem tyX7_ok : ∀ k, k < 3 → parseFieldDescriptor (TX7 k).2.2.1 = some (tyX7 k) := by decide +kernel
abbrev cX7_init : ByteArray := prog_9_method_1_code
def yX7_init : MethodName := ⟨RX7, "<init>", "()V"⟩
abbrev cX7_has : ByteArray := prog_9_method_2_code
def yX7_has : MethodName := ⟨RX7, "has", "(IJ)Z"⟩
abbrev cX7_add : ByteArray := prog_9_method_3_code
def yX7_add : MethodName := ⟨RX7, "add", "(IJ)Z"⟩
def RX8 : String := "FlashTrust$States"
def TX8 : u_T := fun k => match k with
  | 0 => ("FlashTrust$States", "flash", "LFlashTrust$Flash;", true)
  | 1 => ("FlashTrust$States", "factoryLength", "I", true)
  | 2 => ("FlashTrust$States", "factoryHash", "J", true)
  | 3 => ("FlashTrust$States", "page", "LFlashTrust$Row;", true)
  | 4 => ("FlashTrust$States", "place", "I", false)
  | 5 => ("FlashTrust$States", "number", "I", false)
  | 6 => ("FlashTrust$States", "slot", "I", false)
  | 7 => ("FlashTrust$States", "version", "I", false)
  | 8 => ("FlashTrust$States", "length", "I", false)
  | 9 => ("FlashTrust$States", "hash", "J", false)
  | 10 => ("FlashTrust$States", "staged", "I", false)
  | 11 => ("FlashTrust$States", "stagedVersion", "I", false)
  | 12 => ("FlashTrust$States", "stagedLength", "I", false)
  | _ => ("FlashTrust$States", "stagedHash", "J", false)
def tyX8 : Nat → FieldType := fun k => match k with
  | 0 => .object "FlashTrust$Flash"
  | 1 => .int
  | 2 => .long
  | 3 => .object "FlashTrust$Row"
  | 4 => .int
  | 5 => .int
  | 6 => .int
  | 7 => .int
  | 8 => .int
  | 9 => .long
  | 10 => .int
  | 11 => .int
  | 12 => .int
  | _ => .long
theorem nmX8 : ∀ a, a < 14 → ∀ b, b < 14 → a ≠ b → (TX8 a).2.1 ≠ (TX8 b).2.1 := by decide +kernel
theorem tyX8_ok : ∀ k, k < 14 → parseFieldDescriptor (TX8 k).2.2.1 = some (tyX8 k) := by decide +kernel
abbrev cX8_init : ByteArray := prog_10_method_1_code
def yX8_init : MethodName := ⟨RX8, "<init>", "(LFlashTrust$Flash;I)V"⟩
abbrev cX8_install : ByteArray := prog_10_method_2_code
def yX8_install : MethodName := ⟨RX8, "install", "()V"⟩
abbrev cX8_becomeFactory : ByteArray := prog_10_method_3_code
def yX8_becomeFactory : MethodName := ⟨RX8, "becomeFactory", "()V"⟩
abbrev cX8_stage : ByteArray := prog_10_method_4_code
def yX8_stage : MethodName := ⟨RX8, "stage", "(IIIJ)V"⟩
abbrev cX8_stageNothing : ByteArray := prog_10_method_5_code
def yX8_stageNothing : MethodName := ⟨RX8, "stageNothing", "()V"⟩
abbrev cX8_confirmStaged : ByteArray := prog_10_method_6_code
def yX8_confirmStaged : MethodName := ⟨RX8, "confirmStaged", "()V"⟩
abbrev cX8_otherSlot : ByteArray := prog_10_method_7_code
def yX8_otherSlot : MethodName := ⟨RX8, "otherSlot", "()I"⟩
abbrev cX8_stages : ByteArray := prog_10_method_8_code
def yX8_stages : MethodName := ⟨RX8, "stages", "(IIJ)Z"⟩
abbrev cX8_store : ByteArray := prog_10_method_9_code
def yX8_store : MethodName := ⟨RX8, "store", "()V"⟩
abbrev cX8_nextBlank : ByteArray := prog_10_method_10_code
def yX8_nextBlank : MethodName := ⟨RX8, "nextBlank", "(I)I"⟩
abbrev cX8_compose : ByteArray := prog_10_method_11_code
def yX8_compose : MethodName := ⟨RX8, "compose", "(I)V"⟩
abbrev cX8_look : ByteArray := prog_10_method_12_code
def yX8_look : MethodName := ⟨RX8, "look", "()V"⟩
abbrev cX8_fits : ByteArray := prog_10_method_13_code
def yX8_fits : MethodName := ⟨RX8, "fits", "(I)Z"⟩
abbrev cX8_isProgramLength : ByteArray := prog_10_method_14_code
def yX8_isProgramLength : MethodName := ⟨RX8, "isProgramLength", "(J)Z"⟩
abbrev cX8_load : ByteArray := prog_10_method_15_code
def yX8_load : MethodName := ⟨RX8, "load", "(I)V"⟩
abbrev cX8_tell : ByteArray := prog_10_method_16_code
def yX8_tell : MethodName := ⟨RX8, "tell", "(I)I"⟩
def RX9 : String := "FlashTrust$Update"
def TX9 : u_T := fun k => match k with
  | 0 => ("FlashTrust$Update", "flash", "LFlashTrust$Flash;", true)
  | 1 => ("FlashTrust$Update", "shelves", "[LFlashTrust$Shelf;", true)
  | 2 => ("FlashTrust$Update", "states", "LFlashTrust$States;", true)
  | 3 => ("FlashTrust$Update", "signatures", "LFlashTrust$Signatures;", true)
  | 4 => ("FlashTrust$Update", "came", "LFlashTrust$Paper;", true)
  | 5 => ("FlashTrust$Update", "noDocument", "LFlashTrust$Row;", true)
  | 6 => ("FlashTrust$Update", "awaited", "I", false)
  | 7 => ("FlashTrust$Update", "piece", "I", false)
  | 8 => ("FlashTrust$Update", "clock", "I", false)
  | _ => ("FlashTrust$Update", "error", "I", false)
def tyX9 : Nat → FieldType := fun k => match k with
  | 0 => .object "FlashTrust$Flash"
  | 1 => .array (.object "FlashTrust$Shelf")
  | 2 => .object "FlashTrust$States"
  | 3 => .object "FlashTrust$Signatures"
  | 4 => .object "FlashTrust$Paper"
  | 5 => .object "FlashTrust$Row"
  | 6 => .int
  | 7 => .int
  | 8 => .int
  | _ => .int
theorem nmX9 : ∀ a, a < 10 → ∀ b, b < 10 → a ≠ b → (TX9 a).2.1 ≠ (TX9 b).2.1 := by decide +kernel
theorem tyX9_ok : ∀ k, k < 10 → parseFieldDescriptor (TX9 k).2.2.1 = some (tyX9 k) := by decide +kernel
abbrev cX9_init : ByteArray := prog_11_method_1_code
def yX9_init : MethodName := ⟨RX9, "<init>", "(LFlashTrust$Flash;[LFlashTrust$Shelf;LFlashTrust$States;LFlashTrust$Signatures;)V"⟩
abbrev cX9_goesOn : ByteArray := prog_11_method_2_code
def yX9_goesOn : MethodName := ⟨RX9, "goesOn", "()Z"⟩
abbrev cX9_start : ByteArray := prog_11_method_3_code
def yX9_start : MethodName := ⟨RX9, "start", "(I)I"⟩
abbrev cX9_giveUp : ByteArray := prog_11_method_4_code
def yX9_giveUp : MethodName := ⟨RX9, "giveUp", "()V"⟩
abbrev cX9_fail : ByteArray := prog_11_method_5_code
def yX9_fail : MethodName := ⟨RX9, "fail", "(I)I"⟩
abbrev cX9_trustedPaper : ByteArray := prog_11_method_6_code
def yX9_trustedPaper : MethodName := ⟨RX9, "trustedPaper", "(I)LFlashTrust$Paper;"⟩
abbrev cX9_wantedVersion : ByteArray := prog_11_method_7_code
def yX9_wantedVersion : MethodName := ⟨RX9, "wantedVersion", "()I"⟩
abbrev cX9_takeRefusal : ByteArray := prog_11_method_8_code
def yX9_takeRefusal : MethodName := ⟨RX9, "takeRefusal", "()I"⟩
abbrev cX9_takeRoot : ByteArray := prog_11_method_9_code
def yX9_takeRoot : MethodName := ⟨RX9, "takeRoot", "(LFlashTrust$Row;)I"⟩
abbrev cX9_hasRole : ByteArray := prog_11_method_10_code
def yX9_hasRole : MethodName := ⟨RX9, "hasRole", "(LFlashTrust$Paper;LFlashTrust$Paper;I)Z"⟩
abbrev cX9_takePaper : ByteArray := prog_11_method_11_code
def yX9_takePaper : MethodName := ⟨RX9, "takePaper", "(LFlashTrust$Row;)I"⟩
abbrev cX9_judge : ByteArray := prog_11_method_12_code
def yX9_judge : MethodName := ⟨RX9, "judge", "(LFlashTrust$Paper;I)I"⟩
abbrev cX9_isTrustedAsTold : ByteArray := prog_11_method_13_code
def yX9_isTrustedAsTold : MethodName := ⟨RX9, "isTrustedAsTold", "(I)Z"⟩
abbrev cX9_chooseImage : ByteArray := prog_11_method_14_code
def yX9_chooseImage : MethodName := ⟨RX9, "chooseImage", "()I"⟩
abbrev cX9_takePiece : ByteArray := prog_11_method_15_code
def yX9_takePiece : MethodName := ⟨RX9, "takePiece", "(LFlashTrust$Row;)I"⟩
abbrev cX9_finishProgram : ByteArray := prog_11_method_16_code
def yX9_finishProgram : MethodName := ⟨RX9, "finishProgram", "()I"⟩
def RX10 : String := "FlashTrust"
def TX10 : u_T := fun k => match k with
  | 0 => ("FlashTrust", "tape", "LFlashTrust$Row;", true)
  | 1 => ("FlashTrust", "maker", "LFlashTrust$Maker;", true)
  | 2 => ("FlashTrust", "flash", "LFlashTrust$Flash;", true)
  | 3 => ("FlashTrust", "shelves", "[LFlashTrust$Shelf;", true)
  | 4 => ("FlashTrust", "states", "LFlashTrust$States;", true)
  | 5 => ("FlashTrust", "loader", "LFlashTrust$Loader;", true)
  | _ => ("FlashTrust", "update", "LFlashTrust$Update;", true)
def tyX10 : Nat → FieldType := fun k => match k with
  | 0 => .object "FlashTrust$Row"
  | 1 => .object "FlashTrust$Maker"
  | 2 => .object "FlashTrust$Flash"
  | 3 => .array (.object "FlashTrust$Shelf")
  | 4 => .object "FlashTrust$States"
  | 5 => .object "FlashTrust$Loader"
  | _ => .object "FlashTrust$Update"
theorem nmX10 : ∀ a, a < 7 → ∀ b, b < 7 → a ≠ b → (TX10 a).2.1 ≠ (TX10 b).2.1 := by decide +kernel
theorem tyX10_ok : ∀ k, k < 7 → parseFieldDescriptor (TX10 k).2.2.1 = some (tyX10 k) := by decide +kernel
abbrev cX10_init : ByteArray := prog_1_method_1_code
def yX10_init : MethodName := ⟨RX10, "<init>", "(I)V"⟩
abbrev cX10_feed : ByteArray := prog_1_method_2_code
def yX10_feed : MethodName := ⟨RX10, "feed", "(IIIII)I"⟩
abbrev cX10_end : ByteArray := prog_1_method_3_code
def yX10_end : MethodName := ⟨RX10, "end", "(I)I"⟩
abbrev cX10_byteOf : ByteArray := prog_1_method_4_code
def yX10_byteOf : MethodName := ⟨RX10, "byteOf", "(I)I"⟩
abbrev cX10_plan : ByteArray := prog_1_method_5_code
def yX10_plan : MethodName := ⟨RX10, "plan", "(III)I"⟩
abbrev cX10_image : ByteArray := prog_1_method_6_code
def yX10_image : MethodName := ⟨RX10, "image", "(III)I"⟩
abbrev cX10_clear : ByteArray := prog_1_method_7_code
def yX10_clear : MethodName := ⟨RX10, "clear", "()I"⟩
abbrev cX10_draft : ByteArray := prog_1_method_8_code
def yX10_draft : MethodName := ⟨RX10, "draft", "(III)I"⟩
abbrev cX10_sign : ByteArray := prog_1_method_9_code
def yX10_sign : MethodName := ⟨RX10, "sign", "(I)I"⟩
abbrev cX10_show : ByteArray := prog_1_method_10_code
def yX10_show : MethodName := ⟨RX10, "show", "()I"⟩
abbrev cX10_piece : ByteArray := prog_1_method_11_code
def yX10_piece : MethodName := ⟨RX10, "piece", "(II)I"⟩
abbrev cX10_spoil : ByteArray := prog_1_method_12_code
def yX10_spoil : MethodName := ⟨RX10, "spoil", "(II)I"⟩
abbrev cX10_begin : ByteArray := prog_1_method_13_code
def yX10_begin : MethodName := ⟨RX10, "begin", "(I)I"⟩
abbrev cX10_answer : ByteArray := prog_1_method_14_code
def yX10_answer : MethodName := ⟨RX10, "answer", "()I"⟩
abbrev cX10_refuse : ByteArray := prog_1_method_15_code
def yX10_refuse : MethodName := ⟨RX10, "refuse", "()I"⟩
abbrev cX10_awaits : ByteArray := prog_1_method_16_code
def yX10_awaits : MethodName := ⟨RX10, "awaits", "(I)I"⟩
abbrev cX10_stop : ByteArray := prog_1_method_17_code
def yX10_stop : MethodName := ⟨RX10, "stop", "()I"⟩
abbrev cX10_power : ByteArray := prog_1_method_18_code
def yX10_power : MethodName := ⟨RX10, "power", "(II)I"⟩
abbrev cX10_boot : ByteArray := prog_1_method_19_code
def yX10_boot : MethodName := ⟨RX10, "boot", "()I"⟩
abbrev cX10_test : ByteArray := prog_1_method_20_code
def yX10_test : MethodName := ⟨RX10, "test", "(Z)I"⟩
abbrev cX10_told : ByteArray := prog_1_method_21_code
def yX10_told : MethodName := ⟨RX10, "told", "(I)I"⟩
abbrev cX10_trusted : ByteArray := prog_1_method_22_code
def yX10_trusted : MethodName := ⟨RX10, "trusted", "(III)I"⟩
abbrev cX10_flash : ByteArray := prog_1_method_23_code
def yX10_flash : MethodName := ⟨RX10, "flash", "(II)I"⟩
abbrev cX10_digest : ByteArray := prog_1_method_24_code
def yX10_digest : MethodName := ⟨RX10, "digest", "()J"⟩
abbrev cX10_unlessDown : ByteArray := prog_1_method_25_code
def yX10_unlessDown : MethodName := ⟨RX10, "unlessDown", "(I)I"⟩
def RX11 : String := "FlashTrustModel"
def TX11 : u_T := fun k => match k with
  | 0 => ("FlashTrustModel", "flash", "[I", true)
  | 1 => ("FlashTrustModel", "factoryLength", "I", true)
  | 2 => ("FlashTrustModel", "factoryDigest", "J", true)
  | 3 => ("FlashTrustModel", "isDown", "Z", false)
  | 4 => ("FlashTrustModel", "writings", "I", false)
  | 5 => ("FlashTrustModel", "erasings", "I", false)
  | 6 => ("FlashTrustModel", "powerLeft", "I", false)
  | 7 => ("FlashTrustModel", "powerMask", "I", false)
  | 8 => ("FlashTrustModel", "runs", "I", false)
  | 9 => ("FlashTrustModel", "onTrial", "Z", false)
  | 10 => ("FlashTrustModel", "h", "J", false)
  | 11 => ("FlashTrustModel", "tape", "[I", true)
  | 12 => ("FlashTrustModel", "taped", "I", false)
  | 13 => ("FlashTrustModel", "page", "[I", true)
  | 14 => ("FlashTrustModel", "sAt", "I", false)
  | 15 => ("FlashTrustModel", "sNumber", "I", false)
  | 16 => ("FlashTrustModel", "sSlot", "I", false)
  | 17 => ("FlashTrustModel", "sVersion", "I", false)
  | 18 => ("FlashTrustModel", "sLength", "I", false)
  | 19 => ("FlashTrustModel", "sDigest", "J", false)
  | 20 => ("FlashTrustModel", "sStaged", "I", false)
  | 21 => ("FlashTrustModel", "gVersion", "I", false)
  | 22 => ("FlashTrustModel", "gLength", "I", false)
  | 23 => ("FlashTrustModel", "gDigest", "J", false)
  | 24 => ("FlashTrustModel", "pageAt", "I", false)
  | 25 => ("FlashTrustModel", "doc", "[I", true)
  | 26 => ("FlashTrustModel", "docSize", "I", false)
  | 27 => ("FlashTrustModel", "docRole", "I", false)
  | 28 => ("FlashTrustModel", "bodyFrom", "I", false)
  | 29 => ("FlashTrustModel", "bodySize", "I", false)
  | 30 => ("FlashTrustModel", "docKeys", "I", false)
  | 31 => ("FlashTrustModel", "docVersion", "I", false)
  | 32 => ("FlashTrustModel", "docEnd", "J", false)
  | 33 => ("FlashTrustModel", "roleKeys", "[I", true)
  | 34 => ("FlashTrustModel", "roleThreshold", "[I", true)
  | 35 => ("FlashTrustModel", "toldVersion", "I", false)
  | 36 => ("FlashTrustModel", "toldDigest", "J", false)
  | 37 => ("FlashTrustModel", "images", "I", false)
  | 38 => ("FlashTrustModel", "imageVersion", "[I", true)
  | 39 => ("FlashTrustModel", "imageLength", "[I", true)
  | 40 => ("FlashTrustModel", "imageDigest", "[J", true)
  | 41 => ("FlashTrustModel", "signedKey", "[I", true)
  | 42 => ("FlashTrustModel", "signedDigest", "[J", true)
  | 43 => ("FlashTrustModel", "signed", "I", false)
  | 44 => ("FlashTrustModel", "recordSector", "I", false)
  | 45 => ("FlashTrustModel", "recordNumber", "I", false)
  | 46 => ("FlashTrustModel", "recordSize", "I", false)
  | 47 => ("FlashTrustModel", "record", "[I", true)
  | 48 => ("FlashTrustModel", "awaited", "I", false)
  | 49 => ("FlashTrustModel", "clock", "I", false)
  | 50 => ("FlashTrustModel", "lastError", "I", false)
  | 51 => ("FlashTrustModel", "pieceNow", "I", false)
  | 52 => ("FlashTrustModel", "wantVersion", "I", false)
  | 53 => ("FlashTrustModel", "wantLength", "I", false)
  | 54 => ("FlashTrustModel", "wantDigest", "J", false)
  | 55 => ("FlashTrustModel", "came", "[I", true)
  | 56 => ("FlashTrustModel", "cameSize", "I", false)
  | 57 => ("FlashTrustModel", "trustedKeys", "I", false)
  | 58 => ("FlashTrustModel", "trustedThreshold", "I", false)
  | 59 => ("FlashTrustModel", "wasThere", "Z", false)
  | 60 => ("FlashTrustModel", "wasVersion", "I", false)
  | 61 => ("FlashTrustModel", "wasTold", "I", false)
  | 62 => ("FlashTrustModel", "wasDigest", "J", false)
  | 63 => ("FlashTrustModel", "planKeys", "[I", true)
  | 64 => ("FlashTrustModel", "planThreshold", "[I", true)
  | 65 => ("FlashTrustModel", "planImages", "I", false)
  | 66 => ("FlashTrustModel", "planVersion", "[I", true)
  | 67 => ("FlashTrustModel", "planLength", "[I", true)
  | 68 => ("FlashTrustModel", "planSeed", "[I", true)
  | 69 => ("FlashTrustModel", "draft", "[I", true)
  | 70 => ("FlashTrustModel", "draftRole", "I", false)
  | 71 => ("FlashTrustModel", "draftSize", "I", false)
  | 72 => ("FlashTrustModel", "draftKeys", "I", false)
  | 73 => ("FlashTrustModel", "lastVersion", "[I", true)
  | _ => ("FlashTrustModel", "lastDigest", "[J", true)
def tyX11 : Nat → FieldType := fun k => match k with
  | 0 => .array .int
  | 1 => .int
  | 2 => .long
  | 3 => .boolean
  | 4 => .int
  | 5 => .int
  | 6 => .int
  | 7 => .int
  | 8 => .int
  | 9 => .boolean
  | 10 => .long
  | 11 => .array .int
  | 12 => .int
  | 13 => .array .int
  | 14 => .int
  | 15 => .int
  | 16 => .int
  | 17 => .int
  | 18 => .int
  | 19 => .long
  | 20 => .int
  | 21 => .int
  | 22 => .int
  | 23 => .long
  | 24 => .int
  | 25 => .array .int
  | 26 => .int
  | 27 => .int
  | 28 => .int
  | 29 => .int
  | 30 => .int
  | 31 => .int
  | 32 => .long
  | 33 => .array .int
  | 34 => .array .int
  | 35 => .int
  | 36 => .long
  | 37 => .int
  | 38 => .array .int
  | 39 => .array .int
  | 40 => .array .long
  | 41 => .array .int
  | 42 => .array .long
  | 43 => .int
  | 44 => .int
  | 45 => .int
  | 46 => .int
  | 47 => .array .int
  | 48 => .int
  | 49 => .int
  | 50 => .int
  | 51 => .int
  | 52 => .int
  | 53 => .int
  | 54 => .long
  | 55 => .array .int
  | 56 => .int
  | 57 => .int
  | 58 => .int
  | 59 => .boolean
  | 60 => .int
  | 61 => .int
  | 62 => .long
  | 63 => .array .int
  | 64 => .array .int
  | 65 => .int
  | 66 => .array .int
  | 67 => .array .int
  | 68 => .array .int
  | 69 => .array .int
  | 70 => .int
  | 71 => .int
  | 72 => .int
  | 73 => .array .int
  | _ => .array .long
theorem nmX11 : ∀ a, a < 75 → ∀ b, b < 75 → a ≠ b → (TX11 a).2.1 ≠ (TX11 b).2.1 := by decide +kernel
theorem tyX11_ok : ∀ k, k < 75 → parseFieldDescriptor (TX11 k).2.2.1 = some (tyX11 k) := by decide +kernel
abbrev cX11_init : ByteArray := prog_13_method_1_code
def yX11_init : MethodName := ⟨RX11, "<init>", "(I)V"⟩
abbrev cX11_slotAt : ByteArray := prog_13_method_2_code
def yX11_slotAt : MethodName := ⟨RX11, "slotAt", "(I)I"⟩
abbrev cX11_digestBegin : ByteArray := prog_13_method_3_code
def yX11_digestBegin : MethodName := ⟨RX11, "digestBegin", "()V"⟩
abbrev cX11_digestByte : ByteArray := prog_13_method_4_code
def yX11_digestByte : MethodName := ⟨RX11, "digestByte", "(I)V"⟩
abbrev cX11_slotDigest : ByteArray := prog_13_method_5_code
def yX11_slotDigest : MethodName := ⟨RX11, "slotDigest", "(II)J"⟩
abbrev cX11_feed : ByteArray := prog_13_method_6_code
def yX11_feed : MethodName := ⟨RX11, "feed", "(IIIII)I"⟩
abbrev cX11_end : ByteArray := prog_13_method_7_code
def yX11_end : MethodName := ⟨RX11, "end", "(I)I"⟩
abbrev cX11_byteOf : ByteArray := prog_13_method_8_code
def yX11_byteOf : MethodName := ⟨RX11, "byteOf", "(I)I"⟩
abbrev cX11_spoil : ByteArray := prog_13_method_9_code
def yX11_spoil : MethodName := ⟨RX11, "spoil", "(II)I"⟩
abbrev cX11_digest : ByteArray := prog_13_method_10_code
def yX11_digest : MethodName := ⟨RX11, "digest", "()J"⟩
abbrev cX11_hasPower : ByteArray := prog_13_method_11_code
def yX11_hasPower : MethodName := ⟨RX11, "hasPower", "()Z"⟩
abbrev cX11_writePage : ByteArray := prog_13_method_12_code
def yX11_writePage : MethodName := ⟨RX11, "writePage", "(I)V"⟩
abbrev cX11_erase : ByteArray := prog_13_method_13_code
def yX11_erase : MethodName := ⟨RX11, "erase", "(I)V"⟩
abbrev cX11_flash : ByteArray := prog_13_method_14_code
def yX11_flash : MethodName := ⟨RX11, "flash", "(II)I"⟩
abbrev cX11_wide : ByteArray := prog_13_method_15_code
def yX11_wide : MethodName := ⟨RX11, "wide", "(II)I"⟩
abbrev cX11_checkOf : ByteArray := prog_13_method_16_code
def yX11_checkOf : MethodName := ⟨RX11, "checkOf", "(II)I"⟩
abbrev cX11_checkNow : ByteArray := prog_13_method_17_code
def yX11_checkNow : MethodName := ⟨RX11, "checkNow", "()I"⟩
abbrev cX11_six : ByteArray := prog_13_method_18_code
def yX11_six : MethodName := ⟨RX11, "six", "(I)J"⟩
abbrev cX11_isState : ByteArray := prog_13_method_19_code
def yX11_isState : MethodName := ⟨RX11, "isState", "(I)Z"⟩
abbrev cX11_layState : ByteArray := prog_13_method_20_code
def yX11_layState : MethodName := ⟨RX11, "layState", "()V"⟩
abbrev cX11_put : ByteArray := prog_13_method_21_code
def yX11_put : MethodName := ⟨RX11, "put", "(JI)V"⟩
abbrev cX11_layPage : ByteArray := prog_13_method_22_code
def yX11_layPage : MethodName := ⟨RX11, "layPage", "(I)V"⟩
abbrev cX11_isErased : ByteArray := prog_13_method_23_code
def yX11_isErased : MethodName := ⟨RX11, "isErased", "(I)Z"⟩
abbrev cX11_writeState : ByteArray := prog_13_method_24_code
def yX11_writeState : MethodName := ⟨RX11, "writeState", "(I)V"⟩
abbrev cX11_docWide : ByteArray := prog_13_method_25_code
def yX11_docWide : MethodName := ⟨RX11, "docWide", "(II)I"⟩
abbrev cX11_docLong : ByteArray := prog_13_method_26_code
def yX11_docLong : MethodName := ⟨RX11, "docLong", "(I)J"⟩
abbrev cX11_keysAt : ByteArray := prog_13_method_27_code
def yX11_keysAt : MethodName := ⟨RX11, "keysAt", "(II)I"⟩
abbrev cX11_readDoc : ByteArray := prog_13_method_28_code
def yX11_readDoc : MethodName := ⟨RX11, "readDoc", "()Z"⟩
abbrev cX11_readRoles : ByteArray := prog_13_method_29_code
def yX11_readRoles : MethodName := ⟨RX11, "readRoles", "()Z"⟩
abbrev cX11_readImages : ByteArray := prog_13_method_30_code
def yX11_readImages : MethodName := ⟨RX11, "readImages", "()Z"⟩
abbrev cX11_bodyDigest : ByteArray := prog_13_method_31_code
def yX11_bodyDigest : MethodName := ⟨RX11, "bodyDigest", "()J"⟩
abbrev cX11_hasSigned : ByteArray := prog_13_method_32_code
def yX11_hasSigned : MethodName := ⟨RX11, "hasSigned", "(IJ)Z"⟩
abbrev cX11_has : ByteArray := prog_13_method_33_code
def yX11_has : MethodName := ⟨RX11, "has", "(II)Z"⟩
abbrev cX11_isRecord : ByteArray := prog_13_method_34_code
def yX11_isRecord : MethodName := ⟨RX11, "isRecord", "(III)Z"⟩
abbrev cX11_findRecord : ByteArray := prog_13_method_35_code
def yX11_findRecord : MethodName := ⟨RX11, "findRecord", "(I)V"⟩
abbrev cX11_takeTrusted : ByteArray := prog_13_method_36_code
def yX11_takeTrusted : MethodName := ⟨RX11, "takeTrusted", "(I)Z"⟩
abbrev cX11_keepRecord : ByteArray := prog_13_method_37_code
def yX11_keepRecord : MethodName := ⟨RX11, "keepRecord", "(II)V"⟩
abbrev cX11_keepDoc : ByteArray := prog_13_method_38_code
def yX11_keepDoc : MethodName := ⟨RX11, "keepDoc", "()V"⟩
abbrev cX11_takeCame : ByteArray := prog_13_method_39_code
def yX11_takeCame : MethodName := ⟨RX11, "takeCame", "()V"⟩
abbrev cX11_fail : ByteArray := prog_13_method_40_code
def yX11_fail : MethodName := ⟨RX11, "fail", "(I)I"⟩
abbrev cX11_begin : ByteArray := prog_13_method_41_code
def yX11_begin : MethodName := ⟨RX11, "begin", "(I)I"⟩
abbrev cX11_answer : ByteArray := prog_13_method_42_code
def yX11_answer : MethodName := ⟨RX11, "answer", "()I"⟩
abbrev cX11_refuse : ByteArray := prog_13_method_43_code
def yX11_refuse : MethodName := ⟨RX11, "refuse", "()I"⟩
abbrev cX11_takeRole : ByteArray := prog_13_method_44_code
def yX11_takeRole : MethodName := ⟨RX11, "takeRole", "(I)V"⟩
abbrev cX11_takeRoot : ByteArray := prog_13_method_45_code
def yX11_takeRoot : MethodName := ⟨RX11, "takeRoot", "()I"⟩
abbrev cX11_dropTrusted : ByteArray := prog_13_method_46_code
def yX11_dropTrusted : MethodName := ⟨RX11, "dropTrusted", "(I)V"⟩
abbrev cX11_takeWas : ByteArray := prog_13_method_47_code
def yX11_takeWas : MethodName := ⟨RX11, "takeWas", "(I)V"⟩
abbrev cX11_keepOther : ByteArray := prog_13_method_48_code
def yX11_keepOther : MethodName := ⟨RX11, "keepOther", "(I)V"⟩
abbrev cX11_takeTime : ByteArray := prog_13_method_49_code
def yX11_takeTime : MethodName := ⟨RX11, "takeTime", "()I"⟩
abbrev cX11_goToList : ByteArray := prog_13_method_50_code
def yX11_goToList : MethodName := ⟨RX11, "goToList", "()I"⟩
abbrev cX11_saveCame : ByteArray := prog_13_method_51_code
def yX11_saveCame : MethodName := ⟨RX11, "saveCame", "()V"⟩
abbrev cX11_takeList : ByteArray := prog_13_method_52_code
def yX11_takeList : MethodName := ⟨RX11, "takeList", "()I"⟩
abbrev cX11_goToImages : ByteArray := prog_13_method_53_code
def yX11_goToImages : MethodName := ⟨RX11, "goToImages", "()I"⟩
abbrev cX11_takeImages : ByteArray := prog_13_method_54_code
def yX11_takeImages : MethodName := ⟨RX11, "takeImages", "()I"⟩
abbrev cX11_goToPieces : ByteArray := prog_13_method_55_code
def yX11_goToPieces : MethodName := ⟨RX11, "goToPieces", "()I"⟩
abbrev cX11_takePiece : ByteArray := prog_13_method_56_code
def yX11_takePiece : MethodName := ⟨RX11, "takePiece", "(I)I"⟩
abbrev cX11_awaits : ByteArray := prog_13_method_57_code
def yX11_awaits : MethodName := ⟨RX11, "awaits", "(I)I"⟩
abbrev cX11_stop : ByteArray := prog_13_method_58_code
def yX11_stop : MethodName := ⟨RX11, "stop", "()I"⟩
abbrev cX11_power : ByteArray := prog_13_method_59_code
def yX11_power : MethodName := ⟨RX11, "power", "(II)I"⟩
abbrev cX11_runConfirmed : ByteArray := prog_13_method_60_code
def yX11_runConfirmed : MethodName := ⟨RX11, "runConfirmed", "()V"⟩
abbrev cX11_boot : ByteArray := prog_13_method_61_code
def yX11_boot : MethodName := ⟨RX11, "boot", "()I"⟩
abbrev cX11_test : ByteArray := prog_13_method_62_code
def yX11_test : MethodName := ⟨RX11, "test", "(Z)I"⟩
abbrev cX11_told : ByteArray := prog_13_method_63_code
def yX11_told : MethodName := ⟨RX11, "told", "(I)I"⟩
abbrev cX11_trusted : ByteArray := prog_13_method_64_code
def yX11_trusted : MethodName := ⟨RX11, "trusted", "(III)I"⟩
abbrev cX11_plan : ByteArray := prog_13_method_65_code
def yX11_plan : MethodName := ⟨RX11, "plan", "(III)I"⟩
abbrev cX11_image : ByteArray := prog_13_method_66_code
def yX11_image : MethodName := ⟨RX11, "image", "(III)I"⟩
abbrev cX11_clear : ByteArray := prog_13_method_67_code
def yX11_clear : MethodName := ⟨RX11, "clear", "()I"⟩
abbrev cX11_imageByte : ByteArray := prog_13_method_68_code
def yX11_imageByte : MethodName := ⟨RX11, "imageByte", "(II)I"⟩
abbrev cX11_draftPut : ByteArray := prog_13_method_69_code
def yX11_draftPut : MethodName := ⟨RX11, "draftPut", "(JI)V"⟩
abbrev cX11_draftKeysOf : ByteArray := prog_13_method_70_code
def yX11_draftKeysOf : MethodName := ⟨RX11, "draftKeysOf", "(I)V"⟩
abbrev cX11_many : ByteArray := prog_13_method_71_code
def yX11_many : MethodName := ⟨RX11, "many", "(I)I"⟩
abbrev cX11_draftDigest : ByteArray := prog_13_method_72_code
def yX11_draftDigest : MethodName := ⟨RX11, "draftDigest", "()J"⟩
abbrev cX11_draft : ByteArray := prog_13_method_73_code
def yX11_draft : MethodName := ⟨RX11, "draft", "(III)I"⟩
abbrev cX11_sign : ByteArray := prog_13_method_74_code
def yX11_sign : MethodName := ⟨RX11, "sign", "(I)I"⟩
abbrev cX11_show : ByteArray := prog_13_method_75_code
def yX11_show : MethodName := ⟨RX11, "show", "()I"⟩
abbrev cX11_piece : ByteArray := prog_13_method_76_code
def yX11_piece : MethodName := ⟨RX11, "piece", "(II)I"⟩
def RL : String := "FlashTrustLaw"
abbrev cL_cell : ByteArray := method_2_code
def yL_cell : MethodName := ⟨RL, "cell", "([II)I"⟩
abbrev cL_law : ByteArray := code
def yL_law : MethodName := ⟨RL, "law", "([I)Z"⟩
def RJ6 : String := "java/lang/Integer"
abbrev cJ6_bitCount_0f7a4 : ByteArray := prog_15_method_49_code
def yJ6_bitCount_0f7a4 : MethodName := ⟨RJ6, "bitCount", "(I)I"⟩
def RJ9 : String := "java/lang/Math"
abbrev cJ9_max_7cf53 : ByteArray := prog_16_method_65_code
def yJ9_max_7cf53 : MethodName := ⟨RJ9, "max", "(II)I"⟩
abbrev cJ9_min_7cf53 : ByteArray := prog_16_method_69_code
def yJ9_min_7cf53 : MethodName := ⟨RJ9, "min", "(II)I"⟩
abbrev vwCl : List vw_C := [(RX0, TX0, 6), (RX1, TX1, 6), (RX2, TX2, 4), (RX3, TX3, 14), (RX4, TX4, 15), (RX5, TX5, 2), (RX6, TX6, 6), (RX7, TX7, 3), (RX8, TX8, 14), (RX9, TX9, 10), (RX10, TX10, 7), (RX11, TX11, 75)]
theorem z_in1 (i : Nat) {w : Cond} (h : tables_1_1[i]? = some w) : w ∈ lw_tbl := List.mem_append_right _ (show w ∈ tables_1 from List.mem_append_left _ (List.mem_of_getElem? h))
theorem z_in2 (i : Nat) {w : Cond} (h : tables_1_2[i]? = some w) : w ∈ lw_tbl := List.mem_append_right _ (show w ∈ tables_1 from List.mem_append_right _ (List.mem_append_left _ (List.mem_of_getElem? h)))
theorem z_in3 (i : Nat) {w : Cond} (h : tables_1_3[i]? = some w) : w ∈ lw_tbl := List.mem_append_right _ (show w ∈ tables_1 from List.mem_append_right _ (List.mem_append_right _ (List.mem_append_left _ (List.mem_of_getElem? h))))
theorem z_in4 (i : Nat) {w : Cond} (h : tables_1_4[i]? = some w) : w ∈ lw_tbl := List.mem_append_right _ (show w ∈ tables_1 from List.mem_append_right _ (List.mem_append_right _ (List.mem_append_right _ (List.mem_append_left _ (List.mem_of_getElem? h)))))
theorem z_in5 (i : Nat) {w : Cond} (h : tables_1_5[i]? = some w) : w ∈ lw_tbl := List.mem_append_right _ (show w ∈ tables_1 from List.mem_append_right _ (List.mem_append_right _ (List.mem_append_right _ (List.mem_append_right _ (List.mem_append_left _ (List.mem_of_getElem? h))))))
theorem z_in6 (i : Nat) {w : Cond} (h : tables_1_6[i]? = some w) : w ∈ lw_tbl := List.mem_append_right _ (show w ∈ tables_1 from List.mem_append_right _ (List.mem_append_right _ (List.mem_append_right _ (List.mem_append_right _ (List.mem_append_right _ (List.mem_append_left _ (List.mem_of_getElem? h)))))))
theorem z_in7 (i : Nat) {w : Cond} (h : tables_1_7[i]? = some w) : w ∈ lw_tbl := List.mem_append_right _ (show w ∈ tables_1 from List.mem_append_right _ (List.mem_append_right _ (List.mem_append_right _ (List.mem_append_right _ (List.mem_append_right _ (List.mem_append_right _ (List.mem_of_getElem? h)))))))
theorem z_inl {ws : List Cond} (ps : List Nat) (h : ws = ps.filterMap (fun i => tables_1[i]?)) : ∀ w ∈ ws, w ∈ lw_tbl := by
  intro w hw
  rw [h] at hw
  obtain ⟨i, -, hi⟩ := List.mem_filterMap.mp hw
  exact List.mem_append_right _ (List.mem_of_getElem? hi)
set_option maxRecDepth 100000 in
theorem z_cw0 : ∀ w ∈ u_ws RX0 TX0 6, w ∈ lw_tbl := z_inl [263, 265, 267, 269, 271, 273] rfl
set_option maxRecDepth 100000 in
theorem z_cw1 : ∀ w ∈ u_ws RX1 TX1 6, w ∈ lw_tbl := z_inl [156, 158, 160, 162, 164, 166] rfl
set_option maxRecDepth 100000 in
theorem z_cw2 : ∀ w ∈ u_ws RX2 TX2 4, w ∈ lw_tbl := z_inl [453, 455, 457, 459] rfl
set_option maxRecDepth 100000 in
theorem z_cw3 : ∀ w ∈ u_ws RX3 TX3 14, w ∈ lw_tbl := z_inl [96, 98, 100, 102, 104, 106, 108, 110, 112, 114, 116, 118, 120, 122] rfl
set_option maxRecDepth 100000 in
theorem z_cw4 : ∀ w ∈ u_ws RX4 TX4 15, w ∈ lw_tbl := z_inl [212, 214, 216, 218, 220, 222, 224, 226, 228, 230, 232, 234, 236, 238, 240] rfl
set_option maxRecDepth 100000 in
theorem z_cw5 : ∀ w ∈ u_ws RX5 TX5 2, w ∈ lw_tbl := z_inl [34, 36] rfl
set_option maxRecDepth 100000 in
theorem z_cw6 : ∀ w ∈ u_ws RX6 TX6 6, w ∈ lw_tbl := z_inl [289, 291, 293, 295, 297, 299] rfl
set_option maxRecDepth 100000 in
theorem z_cw7 : ∀ w ∈ u_ws RX7 TX7 3, w ∈ lw_tbl := z_inl [55, 57, 59] rfl
set_option maxRecDepth 100000 in
theorem z_cw8 : ∀ w ∈ u_ws RX8 TX8 14, w ∈ lw_tbl := z_inl [351, 353, 355, 357, 359, 361, 363, 365, 367, 369, 371, 373, 375, 377] rfl
set_option maxRecDepth 100000 in
theorem z_cw9 : ∀ w ∈ u_ws RX9 TX9 10, w ∈ lw_tbl := z_inl [486, 488, 490, 492, 494, 496, 498, 500, 502, 504] rfl
set_option maxRecDepth 100000 in
theorem z_cw10 : ∀ w ∈ u_ws RX10 TX10 7, w ∈ lw_tbl := z_inl [514, 516, 518, 520, 522, 524, 526] rfl
set_option maxRecDepth 100000 in
theorem z_cw11 : ∀ w ∈ u_ws RX11 TX11 75, w ∈ lw_tbl := z_inl [1130, 1132, 1134, 1136, 1138, 1140, 1142, 1144, 1146, 1148, 1150, 1152, 1154, 1156, 1158, 1160, 1162, 1164, 1166, 1168, 1170, 1172, 1174, 1176, 1178, 1180, 1182, 1184, 1186, 1188, 1190, 1192, 1194, 1196, 1198, 1200, 1202, 1204, 1206, 1208, 1210, 1212, 1214, 1216, 1218, 1220, 1222, 1224, 1226, 1228, 1230, 1232, 1234, 1236, 1238, 1240, 1242, 1244, 1246, 1248, 1250, 1252, 1254, 1256, 1258, 1260, 1262, 1264, 1266, 1268, 1270, 1272, 1274, 1276, 1278] rfl
end
section
/-! the tables' words that every state keeps -/
def z_tb : List Cond := lw_tbl.filter goodWord
theorem z_tb_in {w : Cond} (h : w ∈ lw_tbl) (g : goodWord w = true) : w ∈ z_tb := List.mem_filter.mpr ⟨h, g⟩
theorem z_tb_good {w : Cond} (h : w ∈ z_tb) : (w.onTables && w.keeps) = true ∨ ∃ ty, w = .arrayClass ty := good_of_word (List.mem_filter.mp h).2
def z_T : Nat → List (Nat × Nat)
  | 0 => [(2, 0), (0, 1), (0, 2), (2, 3), (0, 4), (0, 5)]
  | 1 => [(2, 100), (0, 101), (0, 102), (0, 103), (0, 104), (0, 105)]
  | 2 => [(2, 200), (2, 201), (0, 202), (0, 203)]
  | 3 => [(2, 300), (2, 301), (2, 302), (0, 303), (2, 304), (2, 305), (2, 306), (2, 307), (2, 308), (2, 309), (0, 310), (0, 311), (2, 312), (2, 313)]
  | 4 => [(2, 400), (0, 401), (0, 402), (1, 403), (0, 404), (1, 405), (0, 406), (2, 407), (2, 408), (0, 409), (1, 410), (0, 411), (2, 412), (2, 413), (2, 414)]
  | 5 => [(2, 500), (0, 501)]
  | 6 => [(2, 600), (2, 601), (2, 602), (2, 603), (0, 604), (2, 605)]
  | 7 => [(2, 700), (2, 701), (0, 702)]
  | 8 => [(2, 800), (0, 801), (1, 802), (2, 803), (0, 804), (0, 805), (0, 806), (0, 807), (0, 808), (1, 809), (0, 810), (0, 811), (0, 812), (1, 813)]
  | 9 => [(2, 900), (2, 901), (2, 902), (2, 903), (2, 904), (2, 905), (0, 906), (0, 907), (0, 908), (0, 909)]
  | 10 => [(2, 1000), (2, 1001), (2, 1002), (2, 1003), (2, 1004), (2, 1005), (2, 1006)]
  | 11 => [(2, 1100), (0, 1101), (1, 1102), (0, 1103), (0, 1104), (0, 1105), (0, 1106), (0, 1107), (0, 1108), (0, 1109), (1, 1110), (2, 1111), (0, 1112), (2, 1113), (0, 1114), (0, 1115), (0, 1116), (0, 1117), (0, 1118), (1, 1119), (0, 1120), (0, 1121), (0, 1122), (1, 1123), (0, 1124), (2, 1125), (0, 1126), (0, 1127), (0, 1128), (0, 1129), (0, 1130), (0, 1131), (1, 1132), (2, 1133), (2, 1134), (0, 1135), (1, 1136), (0, 1137), (2, 1138), (2, 1139), (2, 1140), (2, 1141), (2, 1142), (0, 1143), (0, 1144), (0, 1145), (0, 1146), (2, 1147), (0, 1148), (0, 1149), (0, 1150), (0, 1151), (0, 1152), (0, 1153), (1, 1154), (2, 1155), (0, 1156), (0, 1157), (0, 1158), (0, 1159), (0, 1160), (0, 1161), (1, 1162), (2, 1163), (2, 1164), (0, 1165), (2, 1166), (2, 1167), (2, 1168), (2, 1169), (0, 1170), (0, 1171), (0, 1172), (2, 1173), (2, 1174)]
  | _ => []
/-! the store: its shape (addresses, kinds, lengths, references, references in rows, size) and its data (ints, longs of fields by key and address; rows of ints and longs by address and place) -/
abbrev z_G : Type := List Nat × (Nat → Nat) × (Nat → Nat) × (Nat → Nat → Nat) × (Nat → Nat → Nat) × Nat
abbrev z_D : Type := (Nat → Nat → Int32) × (Nat → Nat → Int64) × (Nat → Nat → Int32) × (Nat → Nat → Int64)
def z_L (G : z_G) : List Nat := G.1
def z_K (G : z_G) (a : Nat) : Nat := G.2.1 a
def z_N (G : z_G) (a : Nat) : Nat := G.2.2.1 a
def z_R (G : z_G) (k a : Nat) : Nat := G.2.2.2.1 k a
def z_A (G : z_G) (a j : Nat) : Nat := G.2.2.2.2.1 a j
def z_Z (G : z_G) : Nat := G.2.2.2.2.2
def z_I (D : z_D) (k a : Nat) : Int32 := D.1 k a
def z_J (D : z_D) (k a : Nat) : Int64 := D.2.1 k a
def z_U (D : z_D) (a j : Nat) : Int32 := D.2.2.1 a j
def z_Y (D : z_D) (a j : Nat) : Int64 := D.2.2.2 a j
def z_up {α : Type} (f : Nat → Nat → α) (k a : Nat) (v : α) : Nat → Nat → α := fun k' a' => if k' = k ∧ a' = a then v else f k' a'
def z_sI (D : z_D) (k a : Nat) (v : Int32) : z_D := (z_up D.1 k a v, D.2)
def z_sJ (D : z_D) (k a : Nat) (v : Int64) : z_D := (D.1, z_up D.2.1 k a v, D.2.2)
def z_sU (D : z_D) (a j : Nat) (v : Int32) : z_D := (D.1, D.2.1, z_up D.2.2.1 a j v, D.2.2.2)
def z_sY (D : z_D) (a j : Nat) (v : Int64) : z_D := (D.1, D.2.1, D.2.2.1, z_up D.2.2.2 a j v)
def z_sR (G : z_G) (k a b : Nat) : z_G := (G.1, G.2.1, G.2.2.1, z_up G.2.2.2.1 k a b, G.2.2.2.2)
def z_sA (G : z_G) (a j b : Nat) : z_G := (G.1, G.2.1, G.2.2.1, G.2.2.2.1, z_up G.2.2.2.2.1 a j b, G.2.2.2.2.2)
theorem z_up_at {α : Type} (f : Nat → Nat → α) (k a : Nat) (v : α) (k' a' : Nat) : z_up f k a v k' a' = if k' = k ∧ a' = a then v else f k' a' := rfl
theorem z_I_sI (D : z_D) (k a : Nat) (v : Int32) (k' a' : Nat) : z_I (z_sI D k a v) k' a' = if k' = k ∧ a' = a then v else z_I D k' a' := rfl
theorem z_I_sJ (D : z_D) (k a : Nat) (v : Int64) (k' a' : Nat) : z_I (z_sJ D k a v) k' a' = z_I D k' a' := rfl
theorem z_I_sU (D : z_D) (k a : Nat) (v : Int32) (k' a' : Nat) : z_I (z_sU D k a v) k' a' = z_I D k' a' := rfl
theorem z_I_sY (D : z_D) (k a : Nat) (v : Int64) (k' a' : Nat) : z_I (z_sY D k a v) k' a' = z_I D k' a' := rfl
theorem z_J_sJ (D : z_D) (k a : Nat) (v : Int64) (k' a' : Nat) : z_J (z_sJ D k a v) k' a' = if k' = k ∧ a' = a then v else z_J D k' a' := rfl
theorem z_J_sI (D : z_D) (k a : Nat) (v : Int32) (k' a' : Nat) : z_J (z_sI D k a v) k' a' = z_J D k' a' := rfl
theorem z_J_sU (D : z_D) (k a : Nat) (v : Int32) (k' a' : Nat) : z_J (z_sU D k a v) k' a' = z_J D k' a' := rfl
theorem z_J_sY (D : z_D) (k a : Nat) (v : Int64) (k' a' : Nat) : z_J (z_sY D k a v) k' a' = z_J D k' a' := rfl
theorem z_U_sU (D : z_D) (k a : Nat) (v : Int32) (k' a' : Nat) : z_U (z_sU D k a v) k' a' = if k' = k ∧ a' = a then v else z_U D k' a' := rfl
theorem z_U_sI (D : z_D) (k a : Nat) (v : Int32) (k' a' : Nat) : z_U (z_sI D k a v) k' a' = z_U D k' a' := rfl
theorem z_U_sJ (D : z_D) (k a : Nat) (v : Int64) (k' a' : Nat) : z_U (z_sJ D k a v) k' a' = z_U D k' a' := rfl
theorem z_U_sY (D : z_D) (k a : Nat) (v : Int64) (k' a' : Nat) : z_U (z_sY D k a v) k' a' = z_U D k' a' := rfl
theorem z_Y_sY (D : z_D) (k a : Nat) (v : Int64) (k' a' : Nat) : z_Y (z_sY D k a v) k' a' = if k' = k ∧ a' = a then v else z_Y D k' a' := rfl
theorem z_Y_sI (D : z_D) (k a : Nat) (v : Int32) (k' a' : Nat) : z_Y (z_sI D k a v) k' a' = z_Y D k' a' := rfl
theorem z_Y_sJ (D : z_D) (k a : Nat) (v : Int64) (k' a' : Nat) : z_Y (z_sJ D k a v) k' a' = z_Y D k' a' := rfl
theorem z_Y_sU (D : z_D) (k a : Nat) (v : Int32) (k' a' : Nat) : z_Y (z_sU D k a v) k' a' = z_Y D k' a' := rfl
def z_o (n : Nat) : Option Nat := if n = 0 then none else some n
def z_fv (G : z_G) (D : z_D) (a : Nat) (q : Nat × Nat) : Value := match q.1 with
  | 0 => .int (z_I D q.2 a)
  | 1 => .long (z_J D q.2 a)
  | _ => va_rf (z_o (z_R G q.2 a))
/-- an object's kind is 100 and its class's number; 1, 2, 3: rows of ints, longs, references -/
def z_c (c : ClassId × ClassId × ClassId) (G : z_G) (D : z_D) (a : Nat) : va_E :=
  if 100 ≤ z_K G a then .inr (z_K G a - 100, (z_T (z_K G a - 100)).map (z_fv G D a))
  else if z_K G a = 1 then .inl (c.1, z_N G a, .inl (z_U D a))
  else if z_K G a = 2 then .inl (c.2.1, z_N G a, .inr (.inl (z_Y D a)))
  else .inl (c.2.2, z_N G a, .inr (.inr (.inr (.inr (fun j => z_o (z_A G a j))))))
theorem z_c_ob {c : ClassId × ClassId × ClassId} {G : z_G} {D : z_D} {a ci : Nat} (h : z_K G a = 100 + ci) : z_c c G D a = .inr (ci, (z_T ci).map (z_fv G D a)) := by
  unfold z_c
  rw [h, if_pos (Nat.le_add_right _ _), Nat.add_sub_cancel_left]
theorem z_c_1 {c : ClassId × ClassId × ClassId} {G : z_G} {D : z_D} {a : Nat} (h : z_K G a = 1) : z_c c G D a = .inl (c.1, z_N G a, .inl (z_U D a)) := by
  unfold z_c
  rw [h]; rfl
theorem z_c_2 {c : ClassId × ClassId × ClassId} {G : z_G} {D : z_D} {a : Nat} (h : z_K G a = 2) : z_c c G D a = .inl (c.2.1, z_N G a, .inr (.inl (z_Y D a))) := by
  unfold z_c
  rw [h]; rfl
theorem z_c_3 {c : ClassId × ClassId × ClassId} {G : z_G} {D : z_D} {a : Nat} (h : z_K G a = 3) : z_c c G D a = .inl (c.2.2, z_N G a, .inr (.inr (.inr (.inr (fun j => z_o (z_A G a j)))))) := by
  unfold z_c
  rw [h]; rfl
/-! what is fixed over a whole run: where the classes and fields are, the classes of the rows, the size of the heap at the start, the heap at the start, the two static rows -/
abbrev z_Q : Type := va_G × (ClassId × ClassId × ClassId) × Nat × Heap × Nat × Nat
abbrev z_b (q : z_Q) : Nat := q.2.2.1
abbrev z_h (q : z_Q) : Heap := q.2.2.2.1
def z_ty (q : z_Q) : List (ClassId × FieldType) := [(q.2.1.1, .int), (q.2.1.2.1, .long), (q.2.1.2.2, .object "FlashTrust$Shelf")]
def z_ok (b : Nat) (G : z_G) : Prop := (∀ a ∈ z_L G, b ≤ a) ∧ (z_L G).Nodup ∧ ∀ a, z_K G a ≠ 0 → a ∈ z_L G
def z_Rel (q : z_Q) (G : z_G) (D : z_D) (H : Heap) : Prop := va_P q.1 vwCl (va_pl (z_L G) (z_c q.2.1 G D)) H ∧ z_ok (z_b q) G ∧ z_b q ≤ H.size ∧ (∀ a, a < z_b q → H[a]? = (z_h q)[a]?) ∧ H.size = z_Z G
def z_nw : List Cond := [(Jvm.Cond.methodLinkNest "FlashTrust" (35 : Nat) ({ cls := "FlashTrust$Signatures", name := "<init>", desc := "()V" } : Jvm.MethodName) "FlashTrust"),
  (Jvm.Cond.fieldLinkNest "FlashTrust$Maker" (9 : Nat) "FlashTrust" "FACTORY_KEYS" "[I" "FlashTrust"),
  (Jvm.Cond.castable "[I" "java/lang/Cloneable"),
  (Jvm.Cond.fieldLinkNest "FlashTrust$Maker" (23 : Nat) "FlashTrust" "FACTORY_THRESHOLDS" "[I" "FlashTrust"),
  (Jvm.Cond.methodLinkNest "FlashTrust$Shelf" (11 : Nat) ({ cls := "FlashTrust$Paper", name := "<init>", desc := "()V" } : Jvm.MethodName) "FlashTrust"),
  (Jvm.Cond.methodLinkNest "FlashTrust$Entry" (11 : Nat) ({ cls := "FlashTrust$Paper", name := "<init>", desc := "()V" } : Jvm.MethodName) "FlashTrust"),
  (Jvm.Cond.fieldLinkNest "FlashTrust$Paper" (53 : Nat) "FlashTrust" "FACTORY_KEYS" "[I" "FlashTrust"),
  (Jvm.Cond.fieldLinkNest "FlashTrust$Paper" (56 : Nat) "FlashTrust" "FACTORY_THRESHOLDS" "[I" "FlashTrust"),
  (Jvm.Cond.methodLinkNest "FlashTrust$Update" (11 : Nat) ({ cls := "FlashTrust$Paper", name := "<init>", desc := "()V" } : Jvm.MethodName) "FlashTrust")]
def z_f1 (j : Nat) : Value := .int (match j with | 0 => 7 | 1 => 8 | 2 => 16 | _ => 96)
def z_f2 (j : Nat) : Value := .int (match j with | 0 => 2 | 1 => 1 | 2 => 1 | _ => 2)
/-- what the start gives beside the words that every state keeps -/
def z_St (q : z_Q) (U : State) : Prop := (∀ w ∈ z_nw, va_Nw w U) ∧ va_AO "FlashTrust$Shelf" U ∧
  (va_Z "FlashTrust" "FACTORY_KEYS" "[I" (.ref q.2.2.2.2.1) (fun a => z_b q ≤ a) U (z_h q) ∧ va_T .int q.2.2.2.2.1 4 z_f1 (fun a => z_b q ≤ a) U (z_h q)) ∧
  va_Z "FlashTrust" "FACTORY_THRESHOLDS" "[I" (.ref q.2.2.2.2.2) (fun a => z_b q ≤ a) U (z_h q) ∧ va_T .int q.2.2.2.2.2 4 z_f2 (fun a => z_b q ≤ a) U (z_h q)
theorem z_nw_on : ∀ w ∈ z_nw, w.onTables = true := by
  intro w hw
  simp only [z_nw, List.mem_cons, List.not_mem_nil, or_false] at hw
  rcases hw with rfl | rfl | rfl | rfl | rfl | rfl | rfl | rfl | rfl <;> rfl
theorem z_nw_warm {s U : State} (hW : s.WarmedH U.vm) : ∀ w ∈ z_nw, va_Nw w s → va_Nw w U := by
  intro w hw
  simp only [z_nw, List.mem_cons, List.not_mem_nil, or_false] at hw
  rcases hw with rfl | rfl | rfl | rfl | rfl | rfl | rfl | rfl | rfl <;> intro h <;> first | exact va_Nw.warmF hW h | exact va_Nw.warmM hW h | exact va_Nw.warmC hW h
theorem z_St.warm {q : z_Q} {s U : State} (hW : s.WarmedH U.vm) (h : z_St q s) : z_St q U :=
  ⟨fun w hw => z_nw_warm hW w hw (h.1 w hw), h.2.1.moved hW.alike, ⟨h.2.2.1.1.moved hW.alike, h.2.2.1.2.moved hW.alike⟩, h.2.2.2.1.moved hW.alike, h.2.2.2.2.moved hW.alike⟩
theorem z_St.same {q : z_Q} {s U : State} (e : s.vm = U.vm) (h : z_St q s) : z_St q U :=
  have ha : s.vm.Alike U.vm := e ▸ Vm.Alike.refl s.vm
  ⟨fun w hw => (h.1 w hw).same (z_nw_on w hw) e, h.2.1.moved ha, ⟨h.2.2.1.1.moved ha, h.2.2.1.2.moved ha⟩, h.2.2.2.1.moved ha, h.2.2.2.2.moved ha⟩
abbrev z_X : Type := Program × Launch × Env × Room × State × MethodId × Array Value × List Frame × Method × Code
abbrev x_p (X : z_X) : Program := X.1
abbrev x_l (X : z_X) : Launch := X.2.1
abbrev x_e (X : z_X) : Env := X.2.2.1
abbrev x_R (X : z_X) : Room := X.2.2.2.1
abbrev x_s (X : z_X) : State := X.2.2.2.2.1
abbrev x_m (X : z_X) : MethodId := X.2.2.2.2.2.1
abbrev x_a (X : z_X) : Array Value := X.2.2.2.2.2.2.1
abbrev x_b (X : z_X) : List Frame := X.2.2.2.2.2.2.2.1
abbrev x_h (X : z_X) : Method := X.2.2.2.2.2.2.2.2.1
abbrev x_c (X : z_X) : Code := X.2.2.2.2.2.2.2.2.2
abbrev z_W (X : z_X) (H : Heap) (locs : List Loc) (k n : Nat) (Q : State → Prop) (g : JFrame) : Prop := W (x_p X) (x_l X) (x_e X) (x_R X) (x_s X) (x_m X) (x_a X) (x_b X) (x_h X) (x_c X) H locs k n Q g
/-- from here the method comes to Q -/
def z_V (q : z_Q) (X : z_X) (nL : Nat) (Q : State → Prop) (k n : Nat) (G : z_G) (D : z_D) (pc : Nat) (lv : List (Nat × Value)) (st : List Value) : Prop :=
  ∀ (H : Heap) (locs : List Loc) (ls : Array Slot), z_Rel q G D H → (∀ l ∈ locs, z_b q ≤ l.base) → lv_has ls nL lv → z_W X H locs k n Q (F0 (x_m X) pc ls st)
/-- what a method's body stands on -/
def z_O (q : z_Q) (X : z_X) (cc : ByteArray) (nL : Nat) (own nm : String) (ret : Option FieldType) : Prop :=
  (x_p X).tables.exec = Jvm.exec ∧ (x_c X).code = cc ∧ (x_h X).sig.returnType = ret ∧ (x_c X).maxLocals = nL ∧ (x_s X).vm.findClass own = some (x_m X).cls ∧ (∀ w ∈ z_tb, w.before (x_a X) (x_s X) = true) ∧ (x_h X).locks = false ∧ va_K q.1 vwCl (z_ty q) (x_s X) ∧ z_St q (x_s X) ∧ (x_h X).name = nm ∧ z_b q ≤ (x_s X).heap.size ∧ (∀ a, a < z_b q → (x_s X).heap[a]? = (z_h q)[a]?)
section ZO
variable {q : z_Q} {X : z_X} {cc : ByteArray} {nL : Nat} {own nm : String} {ret : Option FieldType}
theorem z_O.ex (o : z_O q X cc nL own nm ret) : (x_p X).tables.exec = Jvm.exec := o.1
theorem z_O.cd (o : z_O q X cc nL own nm ret) : (x_c X).code = cc := o.2.1
theorem z_O.rt (o : z_O q X cc nL own nm ret) : (x_h X).sig.returnType = ret := o.2.2.1
theorem z_O.ml (o : z_O q X cc nL own nm ret) : (x_c X).maxLocals = nL := o.2.2.2.1
theorem z_O.ow (o : z_O q X cc nL own nm ret) : (x_s X).vm.findClass own = some (x_m X).cls := o.2.2.2.2.1
theorem z_O.ts (o : z_O q X cc nL own nm ret) : ∀ w ∈ z_tb, w.before (x_a X) (x_s X) = true := o.2.2.2.2.2.1
theorem z_O.tw (o : z_O q X cc nL own nm ret) {w : Cond} (h : w ∈ lw_tbl) (g : goodWord w = true) : w.before (x_a X) (x_s X) = true := o.ts w (z_tb_in h g)
theorem z_O.lk (o : z_O q X cc nL own nm ret) : (x_h X).locks = false := o.2.2.2.2.2.2.1
theorem z_O.kn (o : z_O q X cc nL own nm ret) : va_K q.1 vwCl (z_ty q) (x_s X) := o.2.2.2.2.2.2.2.1
theorem z_O.st (o : z_O q X cc nL own nm ret) : z_St q (x_s X) := o.2.2.2.2.2.2.2.2.1
theorem z_O.na (o : z_O q X cc nL own nm ret) : (x_h X).name = nm := o.2.2.2.2.2.2.2.2.2.1
theorem z_O.bs (o : z_O q X cc nL own nm ret) : z_b q ≤ (x_s X).heap.size := o.2.2.2.2.2.2.2.2.2.2.1
theorem z_O.hp (o : z_O q X cc nL own nm ret) : ∀ a, a < z_b q → (x_s X).heap[a]? = (z_h q)[a]? := o.2.2.2.2.2.2.2.2.2.2.2
end ZO
/-! the relation's own laws -/
theorem z_nodup_D {A : Nat → Prop} {L : List Nat} {f : Nat → va_E} (h : L.Nodup) (hA : ∀ a ∈ L, A a) : va_D A (va_pl L f) := by
  refine ⟨fun i j x y hi hj hxy => ?_, fun k x hk => ?_⟩
  · simp only [va_pl, List.getElem?_map] at hi hj
    cases h1 : L[i]? with
    | none => rw [h1] at hi; cases hi
    | some a =>
      cases h2 : L[j]? with
      | none => rw [h2] at hj; cases hj
      | some b =>
        rw [h1] at hi; rw [h2] at hj
        cases hi; cases hj
        have hxy : a = b := hxy
        subst hxy
        obtain ⟨l1, e1⟩ := List.getElem?_eq_some_iff.mp h1
        obtain ⟨l2, e2⟩ := List.getElem?_eq_some_iff.mp h2
        rcases Nat.lt_trichotomy i j with hlt | rfl | hlt
        · exact absurd (e1.trans e2.symm) (List.pairwise_iff_getElem.mp h i j l1 l2 hlt)
        · rfl
        · exact absurd (e2.trans e1.symm) (List.pairwise_iff_getElem.mp h j i l2 l1 hlt)
  · simp only [va_pl, List.getElem?_map] at hk
    cases h1 : L[k]? with
    | none => rw [h1] at hk; cases hk
    | some a =>
      rw [h1] at hk
      cases hk
      exact hA a (List.mem_of_getElem? h1)
theorem z_Rel.D {q : z_Q} {G : z_G} {D : z_D} {H : Heap} (h : z_Rel q G D H) : va_D (fun a => z_b q ≤ a) (va_pl (z_L G) (z_c q.2.1 G D)) := z_nodup_D h.2.1.2.1 h.2.1.1
theorem z_Rel.mem {q : z_Q} {G : z_G} {D : z_D} {H : Heap} (h : z_Rel q G D H) {a : Nat} (hK : z_K G a ≠ 0) : a ∈ z_L G := h.2.1.2.2 a hK
theorem z_Rel.get {q : z_Q} {G : z_G} {D : z_D} {H : Heap} (h : z_Rel q G D H) {a : Nat} (hK : z_K G a ≠ 0) : ∃ k : Nat, (va_pl (z_L G) (z_c q.2.1 G D))[k]? = some (a, z_c q.2.1 G D a) := va_pl_get (X := []) (f := z_c q.2.1 G D) (h.mem hK)
theorem z_pl_set {A : Nat → Prop} {L : List Nat} {f : Nat → va_E} {a k : Nat} {e : va_E} (hD : va_D A (va_pl L f)) (h : a ∈ L) (hk : (va_pl L f)[k]? = some (a, f a)) : (va_pl L f).set k (a, e) = va_pl L (va_up f a e) := va_pl_set (X := []) hD h hk
end
section
section ZR
variable {q : z_Q} {X : z_X} {cc : ByteArray} {nL : Nat} {own nm : String} {ret : Option FieldType} {Q : State → Prop} {k n : Nat} {G : z_G} {D : z_D} {pc : Nat} {lv : List (Nat × Value)} {st : List Value}
theorem v_iadd (o : z_O q X cc nL own nm ret) {x y : Int32} (d : decode cc pc = .ok (.iadd, 1)) (h : z_V q X nL Q k n G D (pc + 1) lv (.int (x + y) :: st)) : z_V q X nL Q k n G D pc lv (.int y :: .int x :: st) :=
  fun H locs ls hR hl hv => lv_iadd o.ex o.cd d (h H locs ls hR hl hv)
theorem v_isub (o : z_O q X cc nL own nm ret) {x y : Int32} (d : decode cc pc = .ok (.isub, 1)) (h : z_V q X nL Q k n G D (pc + 1) lv (.int (x - y) :: st)) : z_V q X nL Q k n G D pc lv (.int y :: .int x :: st) :=
  fun H locs ls hR hl hv => lv_isub o.ex o.cd d (h H locs ls hR hl hv)
theorem v_imul (o : z_O q X cc nL own nm ret) {x y : Int32} (d : decode cc pc = .ok (.imul, 1)) (h : z_V q X nL Q k n G D (pc + 1) lv (.int (x * y) :: st)) : z_V q X nL Q k n G D pc lv (.int y :: .int x :: st) :=
  fun H locs ls hR hl hv => lv_imul o.ex o.cd d (h H locs ls hR hl hv)
theorem v_iand (o : z_O q X cc nL own nm ret) {x y : Int32} (d : decode cc pc = .ok (.iand, 1)) (h : z_V q X nL Q k n G D (pc + 1) lv (.int (x &&& y) :: st)) : z_V q X nL Q k n G D pc lv (.int y :: .int x :: st) :=
  fun H locs ls hR hl hv => lv_iand o.ex o.cd d (h H locs ls hR hl hv)
theorem v_ior (o : z_O q X cc nL own nm ret) {x y : Int32} (d : decode cc pc = .ok (.ior, 1)) (h : z_V q X nL Q k n G D (pc + 1) lv (.int (x ||| y) :: st)) : z_V q X nL Q k n G D pc lv (.int y :: .int x :: st) :=
  fun H locs ls hR hl hv => lv_ior o.ex o.cd d (h H locs ls hR hl hv)
theorem v_ixor (o : z_O q X cc nL own nm ret) {x y : Int32} (d : decode cc pc = .ok (.ixor, 1)) (h : z_V q X nL Q k n G D (pc + 1) lv (.int (x ^^^ y) :: st)) : z_V q X nL Q k n G D pc lv (.int y :: .int x :: st) :=
  fun H locs ls hR hl hv => lv_ixor o.ex o.cd d (h H locs ls hR hl hv)
theorem v_ladd (o : z_O q X cc nL own nm ret) {x y : Int64} (d : decode cc pc = .ok (.ladd, 1)) (h : z_V q X nL Q k n G D (pc + 1) lv (.long (x + y) :: st)) : z_V q X nL Q k n G D pc lv (.long y :: .long x :: st) :=
  fun H locs ls hR hl hv => lv_ladd o.ex o.cd d (h H locs ls hR hl hv)
theorem v_lsub (o : z_O q X cc nL own nm ret) {x y : Int64} (d : decode cc pc = .ok (.lsub, 1)) (h : z_V q X nL Q k n G D (pc + 1) lv (.long (x - y) :: st)) : z_V q X nL Q k n G D pc lv (.long y :: .long x :: st) :=
  fun H locs ls hR hl hv => lv_lsub o.ex o.cd d (h H locs ls hR hl hv)
theorem v_lmul (o : z_O q X cc nL own nm ret) {x y : Int64} (d : decode cc pc = .ok (.lmul, 1)) (h : z_V q X nL Q k n G D (pc + 1) lv (.long (x * y) :: st)) : z_V q X nL Q k n G D pc lv (.long y :: .long x :: st) :=
  fun H locs ls hR hl hv => lv_lmul o.ex o.cd d (h H locs ls hR hl hv)
theorem v_land (o : z_O q X cc nL own nm ret) {x y : Int64} (d : decode cc pc = .ok (.land, 1)) (h : z_V q X nL Q k n G D (pc + 1) lv (.long (x &&& y) :: st)) : z_V q X nL Q k n G D pc lv (.long y :: .long x :: st) :=
  fun H locs ls hR hl hv => lv_land o.ex o.cd d (h H locs ls hR hl hv)
theorem v_lor (o : z_O q X cc nL own nm ret) {x y : Int64} (d : decode cc pc = .ok (.lor, 1)) (h : z_V q X nL Q k n G D (pc + 1) lv (.long (x ||| y) :: st)) : z_V q X nL Q k n G D pc lv (.long y :: .long x :: st) :=
  fun H locs ls hR hl hv => lv_lor o.ex o.cd d (h H locs ls hR hl hv)
theorem v_lxor (o : z_O q X cc nL own nm ret) {x y : Int64} (d : decode cc pc = .ok (.lxor, 1)) (h : z_V q X nL Q k n G D (pc + 1) lv (.long (x ^^^ y) :: st)) : z_V q X nL Q k n G D pc lv (.long y :: .long x :: st) :=
  fun H locs ls hR hl hv => lv_lxor o.ex o.cd d (h H locs ls hR hl hv)
theorem v_idiv (o : z_O q X cc nL own nm ret) {x y : Int32} (d : decode cc pc = .ok (.idiv, 1)) (hy : ¬ y = 0) (h : z_V q X nL Q k n G D (pc + 1) lv (.int (x / y) :: st)) : z_V q X nL Q k n G D pc lv (.int y :: .int x :: st) :=
  fun H locs ls hR hl hv => lv_idiv o.ex o.cd d hy (h H locs ls hR hl hv)
theorem v_irem (o : z_O q X cc nL own nm ret) {x y : Int32} (d : decode cc pc = .ok (.irem, 1)) (hy : ¬ y = 0) (h : z_V q X nL Q k n G D (pc + 1) lv (.int (x - x / y * y) :: st)) : z_V q X nL Q k n G D pc lv (.int y :: .int x :: st) :=
  fun H locs ls hR hl hv => lv_irem o.ex o.cd d hy (h H locs ls hR hl hv)
theorem v_ineg (o : z_O q X cc nL own nm ret) {x : Int32} (d : decode cc pc = .ok (.ineg, 1)) (h : z_V q X nL Q k n G D (pc + 1) lv (.int (-x) :: st)) : z_V q X nL Q k n G D pc lv (.int x :: st) :=
  fun H locs ls hR hl hv => lv_ineg o.ex o.cd d (h H locs ls hR hl hv)
theorem v_ishl (o : z_O q X cc nL own nm ret) {x y : Int32} (d : decode cc pc = .ok (.ishl, 1)) (h : z_V q X nL Q k n G D (pc + 1) lv (.int (x <<< (y &&& 31)) :: st)) : z_V q X nL Q k n G D pc lv (.int y :: .int x :: st) :=
  fun H locs ls hR hl hv => lv_ishl o.ex o.cd d (h H locs ls hR hl hv)
theorem v_ishr (o : z_O q X cc nL own nm ret) {x y : Int32} (d : decode cc pc = .ok (.ishr, 1)) (h : z_V q X nL Q k n G D (pc + 1) lv (.int (x >>> (y &&& 31)) :: st)) : z_V q X nL Q k n G D pc lv (.int y :: .int x :: st) :=
  fun H locs ls hR hl hv => lv_ishr o.ex o.cd d (h H locs ls hR hl hv)
theorem v_iushr (o : z_O q X cc nL own nm ret) {x y : Int32} (d : decode cc pc = .ok (.iushr, 1)) (h : z_V q X nL Q k n G D (pc + 1) lv (.int ((x.toUInt32 >>> (y.toUInt32 &&& Int32.toUInt32 31)).toInt32) :: st)) : z_V q X nL Q k n G D pc lv (.int y :: .int x :: st) :=
  fun H locs ls hR hl hv => lv_iushr o.ex o.cd d rfl (h H locs ls hR hl hv)
theorem v_lushr (o : z_O q X cc nL own nm ret) {x : Int64} {y : Int32} (d : decode cc pc = .ok (.lushr, 1)) (h : z_V q X nL Q k n G D (pc + 1) lv (.long ((x.toUInt64 >>> (y.toInt64.toUInt64 &&& Int64.toUInt64 63)).toInt64) :: st)) : z_V q X nL Q k n G D pc lv (.int y :: .long x :: st) :=
  fun H locs ls hR hl hv => lv_lushr o.ex o.cd d rfl (h H locs ls hR hl hv)
theorem v_lshl (o : z_O q X cc nL own nm ret) {x : Int64} {y : Int32} (d : decode cc pc = .ok (.lshl, 1)) (h : z_V q X nL Q k n G D (pc + 1) lv (.long (x <<< (y.toInt64 &&& 63)) :: st)) : z_V q X nL Q k n G D pc lv (.int y :: .long x :: st) :=
  fun H locs ls hR hl hv => lv_lshl o.ex o.cd d rfl (h H locs ls hR hl hv)
theorem v_lshr (o : z_O q X cc nL own nm ret) {x : Int64} {y : Int32} (d : decode cc pc = .ok (.lshr, 1)) (h : z_V q X nL Q k n G D (pc + 1) lv (.long (x >>> (y.toInt64 &&& 63)) :: st)) : z_V q X nL Q k n G D pc lv (.int y :: .long x :: st) :=
  fun H locs ls hR hl hv => lv_lshr o.ex o.cd d rfl (h H locs ls hR hl hv)
theorem v_i2l (o : z_O q X cc nL own nm ret) {x : Int32} (d : decode cc pc = .ok (.i2l, 1)) (h : z_V q X nL Q k n G D (pc + 1) lv (.long x.toInt64 :: st)) : z_V q X nL Q k n G D pc lv (.int x :: st) :=
  fun H locs ls hR hl hv => lv_i2l o.ex o.cd d rfl (h H locs ls hR hl hv)
theorem v_l2i (o : z_O q X cc nL own nm ret) {x : Int64} (d : decode cc pc = .ok (.l2i, 1)) (h : z_V q X nL Q k n G D (pc + 1) lv (.int x.toInt32 :: st)) : z_V q X nL Q k n G D pc lv (.long x :: st) :=
  fun H locs ls hR hl hv => lv_l2i o.ex o.cd d rfl (h H locs ls hR hl hv)
theorem v_lcmp (o : z_O q X cc nL own nm ret) {x y : Int64} (d : decode cc pc = .ok (.lcmp, 1)) (h : z_V q X nL Q k n G D (pc + 1) lv (.int (lg_cmp x y) :: st)) : z_V q X nL Q k n G D pc lv (.long y :: .long x :: st) :=
  fun H locs ls hR hl hv => W.lcmp o.ex o.cd d (h H locs ls hR hl hv)
theorem v_iconst (o : z_O q X cc nL own nm ret) {i : Int} (v : Int32) (d : decode cc pc = .ok (.iconst i, 1)) (hv0 : Int32.ofInt i = v) (h : z_V q X nL Q k n G D (pc + 1) lv (.int v :: st)) : z_V q X nL Q k n G D pc lv (st) :=
  fun H locs ls hR hl hv => lv_iconst o.ex o.cd d hv0 (h H locs ls hR hl hv)
theorem v_bipush (o : z_O q X cc nL own nm ret) {i : Int} (v : Int32) (d : decode cc pc = .ok (.bipush i, 2)) (hv0 : (Int8.ofInt i).toInt32 = v) (h : z_V q X nL Q k n G D (pc + 2) lv (.int v :: st)) : z_V q X nL Q k n G D pc lv (st) :=
  fun H locs ls hR hl hv => lv_bipush o.ex o.cd d hv0 (h H locs ls hR hl hv)
theorem v_sipush (o : z_O q X cc nL own nm ret) {i : Int} (v : Int32) (d : decode cc pc = .ok (.sipush i, 3)) (hv0 : (Int16.ofInt i).toInt32 = v) (h : z_V q X nL Q k n G D (pc + 3) lv (.int v :: st)) : z_V q X nL Q k n G D pc lv (st) :=
  fun H locs ls hR hl hv => lv_sipush o.ex o.cd d hv0 (h H locs ls hR hl hv)
theorem v_lconst (o : z_O q X cc nL own nm ret) {i : Fin 2} (v : Int64) (d : decode cc pc = .ok (.lconst i, 1)) (hv0 : Int64.ofNat (i : Nat) = v) (h : z_V q X nL Q k n G D (pc + 1) lv (.long v :: st)) : z_V q X nL Q k n G D pc lv (st) :=
  fun H locs ls hR hl hv => lv_lconst o.ex o.cd d hv0 (h H locs ls hR hl hv)
theorem v_dup (o : z_O q X cc nL own nm ret) {a : Value} (d : decode cc pc = .ok (.dup, 1)) (hc : a.category = 1) (h : z_V q X nL Q k n G D (pc + 1) lv (a :: a :: st)) : z_V q X nL Q k n G D pc lv (a :: st) :=
  fun H locs ls hR hl hv => lv_dup o.ex o.cd d hc (h H locs ls hR hl hv)
theorem v_dup2 (o : z_O q X cc nL own nm ret) {a b : Value} (d : decode cc pc = .ok (.dup2, 1)) (hc : a.category = 1) (hc2 : b.category = 1) (h : z_V q X nL Q k n G D (pc + 1) lv (a :: b :: a :: b :: st)) : z_V q X nL Q k n G D pc lv (a :: b :: st) :=
  fun H locs ls hR hl hv => lv_dup2_11 o.ex o.cd d hc hc2 (h H locs ls hR hl hv)
theorem v_pop (o : z_O q X cc nL own nm ret) {a : Value} (d : decode cc pc = .ok (.pop, 1)) (hc : a.category = 1) (h : z_V q X nL Q k n G D (pc + 1) lv (st)) : z_V q X nL Q k n G D pc lv (a :: st) :=
  fun H locs ls hR hl hv => lv_pop o.ex o.cd d hc (h H locs ls hR hl hv)
theorem v_iload_n (o : z_O q X cc nL own nm ret) {j : Fin 4} {i : Nat} {x : Int32} (d : decode cc pc = .ok (.iload_n j, 1)) (hi : (j : Nat) = i) (p : Nat) (hp : lv[p]? = some (i, .int x)) (h : z_V q X nL Q k n G D (pc + 1) lv (.int x :: st)) : z_V q X nL Q k n G D pc lv st :=
  fun H locs ls hR hl hv => lv_iload_n o.ex o.cd d hi (lv_at hv p hp) (h H locs ls hR hl hv)
theorem v_iload (o : z_O q X cc nL own nm ret) {i : Nat} {x : Int32} (d : decode cc pc = .ok (.iload i, 2)) (p : Nat) (hp : lv[p]? = some (i, .int x)) (h : z_V q X nL Q k n G D (pc + 2) lv (.int x :: st)) : z_V q X nL Q k n G D pc lv st :=
  fun H locs ls hR hl hv => lv_iload o.ex o.cd d (lv_at hv p hp) (h H locs ls hR hl hv)
theorem v_istore_n (o : z_O q X cc nL own nm ret) {j : Fin 4} {i : Nat} {x : Int32} (lv1 : List (Nat × Value)) (d : decode cc pc = .ok (.istore_n j, 1)) (hi : (j : Nat) = i) (hn : i < nL) (hl1 : (i, Value.int x) :: lv.filter (fun q => !(q.1 == i) && !(q.1 + 1 == i && q.2.category == 2)) = lv1) (h : z_V q X nL Q k n G D (pc + 1) lv1 st) : z_V q X nL Q k n G D pc lv (.int x :: st) :=
  fun H locs ls hR hl hv => lv_istore_n o.ex o.cd d hi hv hn hl1 (fun ls1 hv1 => h H locs ls1 hR hl hv1)
theorem v_istore (o : z_O q X cc nL own nm ret) {i : Nat} {x : Int32} (lv1 : List (Nat × Value)) (d : decode cc pc = .ok (.istore i, 2)) (hn : i < nL) (hl1 : (i, Value.int x) :: lv.filter (fun q => !(q.1 == i) && !(q.1 + 1 == i && q.2.category == 2)) = lv1) (h : z_V q X nL Q k n G D (pc + 2) lv1 st) : z_V q X nL Q k n G D pc lv (.int x :: st) :=
  fun H locs ls hR hl hv => lv_istore o.ex o.cd d hv hn hl1 (fun ls1 hv1 => h H locs ls1 hR hl hv1)
theorem v_lload_n (o : z_O q X cc nL own nm ret) {j : Fin 4} {i : Nat} {x : Int64} (d : decode cc pc = .ok (.lload_n j, 1)) (hi : (j : Nat) = i) (p : Nat) (hp : lv[p]? = some (i, .long x)) (h : z_V q X nL Q k n G D (pc + 1) lv (.long x :: st)) : z_V q X nL Q k n G D pc lv st :=
  fun H locs ls hR hl hv => lv_lload_n o.ex o.cd d hi (lv_at hv p hp) (h H locs ls hR hl hv)
theorem v_lload (o : z_O q X cc nL own nm ret) {i : Nat} {x : Int64} (d : decode cc pc = .ok (.lload i, 2)) (p : Nat) (hp : lv[p]? = some (i, .long x)) (h : z_V q X nL Q k n G D (pc + 2) lv (.long x :: st)) : z_V q X nL Q k n G D pc lv st :=
  fun H locs ls hR hl hv => lv_lload o.ex o.cd d (lv_at hv p hp) (h H locs ls hR hl hv)
theorem v_lstore_n (o : z_O q X cc nL own nm ret) {j : Fin 4} {i : Nat} {x : Int64} (lv1 : List (Nat × Value)) (d : decode cc pc = .ok (.lstore_n j, 1)) (hi : (j : Nat) = i) (hn : i + 1 < nL) (hl1 : (i, Value.long x) :: lv.filter (fun q => !(q.1 == i) && (!(q.1 == i + 1) && !(q.1 + 1 == i && q.2.category == 2))) = lv1) (h : z_V q X nL Q k n G D (pc + 1) lv1 st) : z_V q X nL Q k n G D pc lv (.long x :: st) :=
  fun H locs ls hR hl hv => lv_lstore_n o.ex o.cd d hi hv hn hl1 (fun ls1 hv1 => h H locs ls1 hR hl hv1)
theorem v_lstore (o : z_O q X cc nL own nm ret) {i : Nat} {x : Int64} (lv1 : List (Nat × Value)) (d : decode cc pc = .ok (.lstore i, 2)) (hn : i + 1 < nL) (hl1 : (i, Value.long x) :: lv.filter (fun q => !(q.1 == i) && (!(q.1 == i + 1) && !(q.1 + 1 == i && q.2.category == 2))) = lv1) (h : z_V q X nL Q k n G D (pc + 2) lv1 st) : z_V q X nL Q k n G D pc lv (.long x :: st) :=
  fun H locs ls hR hl hv => lv_lstore o.ex o.cd d hv hn hl1 (fun ls1 hv1 => h H locs ls1 hR hl hv1)
theorem v_aload_n (o : z_O q X cc nL own nm ret) {j : Fin 4} {i : Nat} {x : Nat} (d : decode cc pc = .ok (.aload_n j, 1)) (hi : (j : Nat) = i) (p : Nat) (hp : lv[p]? = some (i, .ref x)) (h : z_V q X nL Q k n G D (pc + 1) lv (.ref x :: st)) : z_V q X nL Q k n G D pc lv st :=
  fun H locs ls hR hl hv => lv_aload_n o.ex o.cd d hi (lv_at hv p hp) (h H locs ls hR hl hv)
theorem v_aload (o : z_O q X cc nL own nm ret) {i : Nat} {x : Nat} (d : decode cc pc = .ok (.aload i, 2)) (p : Nat) (hp : lv[p]? = some (i, .ref x)) (h : z_V q X nL Q k n G D (pc + 2) lv (.ref x :: st)) : z_V q X nL Q k n G D pc lv st :=
  fun H locs ls hR hl hv => lv_aload o.ex o.cd d (lv_at hv p hp) (h H locs ls hR hl hv)
theorem v_astore_n (o : z_O q X cc nL own nm ret) {j : Fin 4} {i : Nat} {x : Nat} (lv1 : List (Nat × Value)) (d : decode cc pc = .ok (.astore_n j, 1)) (hi : (j : Nat) = i) (hn : i < nL) (hl1 : (i, Value.ref x) :: lv.filter (fun q => !(q.1 == i) && !(q.1 + 1 == i && q.2.category == 2)) = lv1) (h : z_V q X nL Q k n G D (pc + 1) lv1 st) : z_V q X nL Q k n G D pc lv (.ref x :: st) :=
  fun H locs ls hR hl hv => lv_astore_n o.ex o.cd d hi hv hn hl1 (fun ls1 hv1 => h H locs ls1 hR hl hv1)
theorem v_astore (o : z_O q X cc nL own nm ret) {i : Nat} {x : Nat} (lv1 : List (Nat × Value)) (d : decode cc pc = .ok (.astore i, 2)) (hn : i < nL) (hl1 : (i, Value.ref x) :: lv.filter (fun q => !(q.1 == i) && !(q.1 + 1 == i && q.2.category == 2)) = lv1) (h : z_V q X nL Q k n G D (pc + 2) lv1 st) : z_V q X nL Q k n G D pc lv (.ref x :: st) :=
  fun H locs ls hR hl hv => lv_astore o.ex o.cd d hv hn hl1 (fun ls1 hv1 => h H locs ls1 hR hl hv1)
theorem v_iinc (o : z_O q X cc nL own nm ret) {i : Nat} {j : Int} {x : Int32} (v : Int32) (lv1 : List (Nat × Value)) (d : decode cc pc = .ok (.iinc i j, 3)) (p : Nat) (hp : lv[p]? = some (i, .int x)) (hx : x + Int32.ofInt j = v) (hn : i < nL) (hl1 : (i, Value.int v) :: lv.filter (fun q => !(q.1 == i) && !(q.1 + 1 == i && q.2.category == 2)) = lv1) (h : z_V q X nL Q k n G D (pc + 3) lv1 st) : z_V q X nL Q k n G D pc lv st :=
  fun H locs ls hR hl hv => lv_iinc o.ex o.cd d hv hp hx hn hl1 (fun ls1 hv1 => h H locs ls1 hR hl hv1)
theorem v_if_eq (o : z_O q X cc nL own nm ret) {x : Int32} {off : Int} (t : Nat) (d : decode cc pc = .ok (.ifCond .eq off, 3)) (ht : (pc : Int) + off = (t : Int)) (h1 : x = 0 → z_V q X nL Q k n G D t lv st) (h2 : ¬ (x = 0) → z_V q X nL Q k n G D (pc + 3) lv st) : z_V q X nL Q k n G D pc lv (.int x :: st) :=
  fun H locs ls hR hl hv => lv_if_eq o.ex o.cd d ht (fun e => h1 e H locs ls hR hl hv) (fun e => h2 e H locs ls hR hl hv)
theorem v_icmp_eq (o : z_O q X cc nL own nm ret) {x y : Int32} {off : Int} (t : Nat) (d : decode cc pc = .ok (.if_icmp .eq off, 3)) (ht : (pc : Int) + off = (t : Int)) (h1 : x = y → z_V q X nL Q k n G D t lv st) (h2 : ¬ (x = y) → z_V q X nL Q k n G D (pc + 3) lv st) : z_V q X nL Q k n G D pc lv (.int y :: .int x :: st) :=
  fun H locs ls hR hl hv => lv_icmp_eq o.ex o.cd d ht (fun e => h1 e H locs ls hR hl hv) (fun e => h2 e H locs ls hR hl hv)
theorem v_if_ne (o : z_O q X cc nL own nm ret) {x : Int32} {off : Int} (t : Nat) (d : decode cc pc = .ok (.ifCond .ne off, 3)) (ht : (pc : Int) + off = (t : Int)) (h1 : ¬ x = 0 → z_V q X nL Q k n G D t lv st) (h2 : x = 0 → z_V q X nL Q k n G D (pc + 3) lv st) : z_V q X nL Q k n G D pc lv (.int x :: st) :=
  fun H locs ls hR hl hv => lv_if_ne o.ex o.cd d ht (fun e => h1 e H locs ls hR hl hv) (fun e => h2 e H locs ls hR hl hv)
theorem v_icmp_ne (o : z_O q X cc nL own nm ret) {x y : Int32} {off : Int} (t : Nat) (d : decode cc pc = .ok (.if_icmp .ne off, 3)) (ht : (pc : Int) + off = (t : Int)) (h1 : ¬ x = y → z_V q X nL Q k n G D t lv st) (h2 : x = y → z_V q X nL Q k n G D (pc + 3) lv st) : z_V q X nL Q k n G D pc lv (.int y :: .int x :: st) :=
  fun H locs ls hR hl hv => lv_icmp_ne o.ex o.cd d ht (fun e => h1 e H locs ls hR hl hv) (fun e => h2 e H locs ls hR hl hv)
theorem v_if_lt (o : z_O q X cc nL own nm ret) {x : Int32} {off : Int} (t : Nat) (d : decode cc pc = .ok (.ifCond .lt off, 3)) (ht : (pc : Int) + off = (t : Int)) (h1 : x < 0 → z_V q X nL Q k n G D t lv st) (h2 : ¬ (x < 0) → z_V q X nL Q k n G D (pc + 3) lv st) : z_V q X nL Q k n G D pc lv (.int x :: st) :=
  fun H locs ls hR hl hv => lv_if_lt o.ex o.cd d ht (fun e => h1 e H locs ls hR hl hv) (fun e => h2 e H locs ls hR hl hv)
theorem v_icmp_lt (o : z_O q X cc nL own nm ret) {x y : Int32} {off : Int} (t : Nat) (d : decode cc pc = .ok (.if_icmp .lt off, 3)) (ht : (pc : Int) + off = (t : Int)) (h1 : x < y → z_V q X nL Q k n G D t lv st) (h2 : ¬ (x < y) → z_V q X nL Q k n G D (pc + 3) lv st) : z_V q X nL Q k n G D pc lv (.int y :: .int x :: st) :=
  fun H locs ls hR hl hv => lv_icmp_lt o.ex o.cd d ht (fun e => h1 e H locs ls hR hl hv) (fun e => h2 e H locs ls hR hl hv)
theorem v_if_ge (o : z_O q X cc nL own nm ret) {x : Int32} {off : Int} (t : Nat) (d : decode cc pc = .ok (.ifCond .ge off, 3)) (ht : (pc : Int) + off = (t : Int)) (h1 : 0 ≤ x → z_V q X nL Q k n G D t lv st) (h2 : ¬ (0 ≤ x) → z_V q X nL Q k n G D (pc + 3) lv st) : z_V q X nL Q k n G D pc lv (.int x :: st) :=
  fun H locs ls hR hl hv => lv_if_ge o.ex o.cd d ht (fun e => h1 e H locs ls hR hl hv) (fun e => h2 e H locs ls hR hl hv)
theorem v_icmp_ge (o : z_O q X cc nL own nm ret) {x y : Int32} {off : Int} (t : Nat) (d : decode cc pc = .ok (.if_icmp .ge off, 3)) (ht : (pc : Int) + off = (t : Int)) (h1 : y ≤ x → z_V q X nL Q k n G D t lv st) (h2 : ¬ (y ≤ x) → z_V q X nL Q k n G D (pc + 3) lv st) : z_V q X nL Q k n G D pc lv (.int y :: .int x :: st) :=
  fun H locs ls hR hl hv => lv_icmp_ge o.ex o.cd d ht (fun e => h1 e H locs ls hR hl hv) (fun e => h2 e H locs ls hR hl hv)
theorem v_if_gt (o : z_O q X cc nL own nm ret) {x : Int32} {off : Int} (t : Nat) (d : decode cc pc = .ok (.ifCond .gt off, 3)) (ht : (pc : Int) + off = (t : Int)) (h1 : 0 < x → z_V q X nL Q k n G D t lv st) (h2 : ¬ (0 < x) → z_V q X nL Q k n G D (pc + 3) lv st) : z_V q X nL Q k n G D pc lv (.int x :: st) :=
  fun H locs ls hR hl hv => lv_if_gt o.ex o.cd d ht (fun e => h1 e H locs ls hR hl hv) (fun e => h2 e H locs ls hR hl hv)
theorem v_icmp_gt (o : z_O q X cc nL own nm ret) {x y : Int32} {off : Int} (t : Nat) (d : decode cc pc = .ok (.if_icmp .gt off, 3)) (ht : (pc : Int) + off = (t : Int)) (h1 : y < x → z_V q X nL Q k n G D t lv st) (h2 : ¬ (y < x) → z_V q X nL Q k n G D (pc + 3) lv st) : z_V q X nL Q k n G D pc lv (.int y :: .int x :: st) :=
  fun H locs ls hR hl hv => lv_icmp_gt o.ex o.cd d ht (fun e => h1 e H locs ls hR hl hv) (fun e => h2 e H locs ls hR hl hv)
theorem v_if_le (o : z_O q X cc nL own nm ret) {x : Int32} {off : Int} (t : Nat) (d : decode cc pc = .ok (.ifCond .le off, 3)) (ht : (pc : Int) + off = (t : Int)) (h1 : x ≤ 0 → z_V q X nL Q k n G D t lv st) (h2 : ¬ (x ≤ 0) → z_V q X nL Q k n G D (pc + 3) lv st) : z_V q X nL Q k n G D pc lv (.int x :: st) :=
  fun H locs ls hR hl hv => lv_if_le o.ex o.cd d ht (fun e => h1 e H locs ls hR hl hv) (fun e => h2 e H locs ls hR hl hv)
theorem v_icmp_le (o : z_O q X cc nL own nm ret) {x y : Int32} {off : Int} (t : Nat) (d : decode cc pc = .ok (.if_icmp .le off, 3)) (ht : (pc : Int) + off = (t : Int)) (h1 : x ≤ y → z_V q X nL Q k n G D t lv st) (h2 : ¬ (x ≤ y) → z_V q X nL Q k n G D (pc + 3) lv st) : z_V q X nL Q k n G D pc lv (.int y :: .int x :: st) :=
  fun H locs ls hR hl hv => lv_icmp_le o.ex o.cd d ht (fun e => h1 e H locs ls hR hl hv) (fun e => h2 e H locs ls hR hl hv)
theorem v_goto (o : z_O q X cc nL own nm ret) {off : Int} (t : Nat) (d : decode cc pc = .ok (.goto off, 3)) (ht : (pc : Int) + off = (t : Int)) (h : z_V q X nL Q k n G D t lv st) : z_V q X nL Q k n G D pc lv st :=
  fun H locs ls hR hl hv => lv_goto o.ex o.cd d ht (h H locs ls hR hl hv)
theorem v_tabOut (o : z_O q X cc nL own nm ret) {df lo hi : Int} {offs : Array Int} {len : Nat} {x : Int32} (t : Nat) (d : decode cc pc = .ok (.tableswitch df lo hi offs, len)) (hx : x.toInt < lo ∨ hi < x.toInt) (ht : (pc : Int) + df = (t : Int)) (h : z_V q X nL Q k n G D t lv st) : z_V q X nL Q k n G D pc lv (.int x :: st) :=
  fun H locs ls hR hl hv => lv_tableOut o.ex o.cd d hx ht (h H locs ls hR hl hv)
theorem v_tabIn (o : z_O q X cc nL own nm ret) {df lo hi off : Int} {offs : Array Int} {len : Nat} {x : Int32} (t : Nat) (d : decode cc pc = .ok (.tableswitch df lo hi offs, len)) (h1 : ¬ x.toInt < lo) (h2 : ¬ hi < x.toInt) (ho : offs[(x.toInt - lo).toNat]? = some off) (ht : (pc : Int) + off = (t : Int)) (h : z_V q X nL Q k n G D t lv st) : z_V q X nL Q k n G D pc lv (.int x :: st) :=
  fun H locs ls hR hl hv => lv_tableIn o.ex o.cd d h1 h2 ho ht (h H locs ls hR hl hv)
theorem v_ldc (o : z_O q X cc nL own nm ret) {i : Nat} {v : Int32} (hw : Cond.constant own i v ∈ lw_tbl) (d : decode cc pc = .ok (.ldc i, 2)) (h : z_V q X nL Q k n G D (pc + 2) lv (.int v :: st)) : z_V q X nL Q k n G D pc lv st :=
  fun H locs ls hR hl hv => lv_ldc o.ex o.cd o.ow (o.tw hw rfl) d (h H locs ls hR hl hv)
theorem v_ldcw (o : z_O q X cc nL own nm ret) {i : Nat} {v : Int32} (hw : Cond.constant own i v ∈ lw_tbl) (d : decode cc pc = .ok (.ldc_w i, 3)) (h : z_V q X nL Q k n G D (pc + 3) lv (.int v :: st)) : z_V q X nL Q k n G D pc lv st :=
  fun H locs ls hR hl hv => lv_ldcw o.ex o.cd o.ow (o.tw hw rfl) d (h H locs ls hR hl hv)
theorem v_ldc2 (o : z_O q X cc nL own nm ret) {i : Nat} {v : Int64} (hw : Cond.constantLong own i v ∈ lw_tbl) (d : decode cc pc = .ok (.ldc2_w i, 3)) (h : z_V q X nL Q k n G D (pc + 3) lv (.long v :: st)) : z_V q X nL Q k n G D pc lv st :=
  fun H locs ls hR hl hv => lv_ldc2 o.ex o.cd o.ow (o.tw hw rfl) d (h H locs ls hR hl hv)
end ZR
end
section
section ZF
variable {q : z_Q} {X : z_X} {cc : ByteArray} {nL : Nat} {own nm : String} {ret : Option FieldType} {Q : State → Prop} {k n : Nat} {G : z_G} {D : z_D} {pc : Nat} {lv : List (Nat × Value)} {st : List Value}
/-- a world with one cell changed -/
theorem z_Rel.upd {H H1 : Heap} {a : Nat} {G1 : z_G} {D1 : z_D} (hR : z_Rel q G D H) (hK : z_K G a ≠ 0) (hL : z_L G1 = z_L G) (hKe : z_K G1 = z_K G) (hZ : z_Z G1 = z_Z G) {e : va_E} (he : z_c q.2.1 G1 D1 a = e) (hne : ∀ b, b ≠ a → z_c q.2.1 G1 D1 b = z_c q.2.1 G D b)
    (hP : va_P q.1 vwCl (va_pl (z_L G) (va_up (z_c q.2.1 G D) a e)) H1) (hz : H1.size = H.size) (ho : ∀ b, b < z_b q → H1[b]? = H[b]?) : z_Rel q G1 D1 H1 := by
  refine ⟨?_, ⟨fun b hb => hR.2.1.1 b (hL ▸ hb), hL ▸ hR.2.1.2.1, fun b hb => ?_⟩, by rw [hz]; exact hR.2.2.1, fun b hb => (ho b hb).trans (hR.2.2.2.1 b hb), by rw [hz, hZ]; exact hR.2.2.2.2⟩
  · rw [hL]
    have : va_up (z_c q.2.1 G D) a e = z_c q.2.1 G1 D1 := by
      funext b
      by_cases hb : b = a
      · subst hb
        rw [va_up_self, he]
      · rw [va_up_ne _ _ hb, hne b hb]
    rw [← this]
    exact hP
  · rw [hL]
    rw [hKe] at hb
    exact hR.2.1.2.2 b hb
theorem z_sub {H : Heap} {locs : List Loc} (hl : ∀ l ∈ locs, z_b q ≤ l.base) (H0 : Heap) (hs : H0.size ≤ H.size) (hb : ∀ a, a < H0.size → ¬ z_b q ≤ a → H[a]? = H0[a]?) : va_S (fun a => z_b q ≤ a) H0 H locs := ⟨hs, hb, hl⟩
/-- a field is read -/
theorem z_get (o : z_O q X cc nL own nm ret) (ci j : Nat) {C : String} {T : u_T} {N : Nat} (hc : vwCl[ci]? = some (C, T, N)) (hin : ∀ w ∈ u_ws C T N, w ∈ lw_tbl) (hj : j < N) {a : Nat} (hK : z_K G a = 100 + ci) {v : Value} (hv : ((z_T ci).map (z_fv G D a))[j]? = some v) {i : Nat} (hw : Cond.fieldLink own i (T j).1 (T j).2.1 (T j).2.2.1 ∈ lw_tbl) (d : decode cc pc = .ok (.getfield i, 3)) (h : z_V q X nL Q k n G D (pc + 3) lv (v :: st)) : z_V q X nL Q k n G D pc lv (.ref a :: st) := by
  intro H locs ls hR hl hv1
  obtain ⟨p0, hp⟩ := hR.get (show z_K G a ≠ 0 by omega)
  rw [z_c_ob hK] at hp
  have hin' : ∀ w ∈ u_ws C T N, w ∈ z_tb := fun w h => z_tb_in (hin w h) (by
    obtain ⟨b, -, rfl⟩ := List.mem_map.mp h
    unfold u_lay
    split <;> rfl)
  exact va_get o.ex o.cd o.ts hin' o.ow o.kn hR.1 p0 hp hc j hj (o.tw hw rfl) (fun _ h => h) hv d (h H locs ls hR hl hv1)
theorem z_keyset {G1 : z_G} {D1 : z_D} {a j : Nat} {l : List (Nat × Nat)} {p : Nat × Nat} {v : Value} (hu : (l.map Prod.snd).Nodup) (hp : l[j]? = some p) (hv : z_fv G1 D1 a p = v) (ho : ∀ p', p'.2 ≠ p.2 → z_fv G1 D1 a p' = z_fv G D a p') : l.map (z_fv G1 D1 a) = (l.map (z_fv G D a)).set j v := by
  apply List.ext_getElem?
  intro i
  have hjl : j < l.length := (List.getElem?_eq_some_iff.mp hp).1
  by_cases hij : i = j
  · subst hij
    rw [List.getElem?_map, hp, List.getElem?_set_self (by rw [List.length_map]; exact hjl), Option.map_some, hv]
  · rw [List.getElem?_set_ne (Ne.symm hij), List.getElem?_map, List.getElem?_map]
    cases hq : l[i]? with
    | none => rfl
    | some p' =>
      rw [Option.map_some, Option.map_some, ho p']
      intro he
      obtain ⟨l1, e1⟩ := List.getElem?_eq_some_iff.mp hq
      obtain ⟨l2, e2⟩ := List.getElem?_eq_some_iff.mp hp
      have hpw := List.pairwise_iff_getElem.mp hu
      rcases Nat.lt_or_gt_of_ne hij with hlt | hlt
      · exact hpw i j (by rw [List.length_map]; exact l1) (by rw [List.length_map]; exact l2) hlt (by rw [List.getElem_map, List.getElem_map, e1, e2]; exact he)
      · exact hpw j i (by rw [List.length_map]; exact l2) (by rw [List.length_map]; exact l1) hlt (by rw [List.getElem_map, List.getElem_map, e1, e2]; exact he.symm)
/-- a field is written -/
theorem z_put (o : z_O q X cc nL own nm ret) (ci j : Nat) {C : String} {T : u_T} {N : Nat} (hc : vwCl[ci]? = some (C, T, N)) (hin : ∀ w ∈ u_ws C T N, w ∈ lw_tbl) (ty0 : Nat → FieldType) (hty : ∀ k, k < N → parseFieldDescriptor (T k).2.2.1 = some (ty0 k)) (hnm : ∀ a, a < N → ∀ b, b < N → a ≠ b → (T a).2.1 ≠ (T b).2.1) (hj : j < N) {a : Nat} (hK : z_K G a = 100 + ci) {v : Value} {p : Nat × Nat} (hp : (z_T ci)[j]? = some p) (hu : ((z_T ci).map Prod.snd).Nodup) (G1 : z_G) (D1 : z_D)
    (hL : z_L G1 = z_L G) (hKe : z_K G1 = z_K G) (hZ : z_Z G1 = z_Z G) (hv : z_fv G1 D1 a p = v) (ho : ∀ p', p'.2 ≠ p.2 → z_fv G1 D1 a p' = z_fv G D a p') (hne : ∀ b, b ≠ a → z_c q.2.1 G1 D1 b = z_c q.2.1 G D b)
    {i : Nat} (hw : Cond.fieldLink own i (T j).1 (T j).2.1 (T j).2.2.1 ∈ lw_tbl) (hfin : (T j).2.2.2 = false ∨ ((T j).2.2.2 = true ∧ nm = "<init>" ∧ (T j).1 = own)) (hn : narrow (ty0 j) v = v) (hfit : fits (ty0 j) v = true)
    (d : decode cc pc = .ok (.putfield i, 3)) (h : z_V q X nL Q k n G1 D1 (pc + 3) lv st) : z_V q X nL Q k n G D pc lv (v :: .ref a :: st) := by
  intro H locs ls hR hl hv1
  have hK0 : z_K G a ≠ 0 := by omega
  obtain ⟨p0, hp0⟩ := hR.get hK0
  have hp1 := hp0
  rw [z_c_ob hK] at hp0
  have hin' : ∀ w ∈ u_ws C T N, w ∈ z_tb := fun w h => z_tb_in (hin w h) (by
    obtain ⟨b, -, rfl⟩ := List.mem_map.mp h
    unfold u_lay
    split <;> rfl)
  have hll : j < ((z_T ci).map (z_fv G D a)).length := by rw [List.length_map]; exact (List.getElem?_eq_some_iff.mp hp).1
  have fin : ∀ (H1 : Heap) (locs1 : List Loc), va_P q.1 vwCl ((va_pl (z_L G) (z_c q.2.1 G D)).set p0 (a, .inr (ci, ((z_T ci).map (z_fv G D a)).set j v))) H1 → H1.size = H.size → (∀ b, b ≠ a → H1[b]? = H[b]?) → (∀ l ∈ locs1, z_b q ≤ l.base) → z_W X H1 locs1 k n Q (F0 (x_m X) (pc + 3) ls st) := by
    intro H1 locs1 hP1 hz hob hl1
    rw [z_pl_set hR.D (hR.mem hK0) hp1, ← z_keyset hu hp hv ho] at hP1
    have hg : z_K G1 a = 100 + ci := by rw [hKe]; exact hK
    refine h H1 locs1 ls (hR.upd hK0 hL hKe hZ (z_c_ob hg) hne hP1 hz (fun b hb => hob b ?_)) hl1 hv1
    have := hR.2.1.1 a (hR.mem hK0)
    omega
  have hba : z_b q ≤ a := hR.2.1.1 a (hR.mem hK0)
  have hl2 : ∀ sl, ∀ l ∈ locs ++ [⟨a, sl⟩], z_b q ≤ l.base := fun sl l hlm => by
    rcases List.mem_append.mp hlm with h9 | h9
    · exact hl l h9
    · rw [List.mem_singleton.mp h9]
      exact hba
  have hap := va_apart (own := own) o.ts hin' ty0 hty hnm o.kn hc
  obtain ⟨r, e1, cell, q1, q2, q3, q4⟩ := hR.1 p0 _ hp0
  have hr : r = (C, T, N) := Option.some.inj (e1.symm.trans hc)
  subst hr
  obtain ⟨hS, hfc, kC, hkC, hkind⟩ := o.kn.1 ci _ hc
  obtain ⟨cf, kf, fi, f, hi, hsl⟩ := hS j hj
  have hlay := o.ts _ (hin' _ (u_in_lay hj))
  have hst := (u_facts hfc hkC (u_lays o.ts hin' hj) hi).1
  have done : ∀ H' : Heap, H'[a]? = some (cell.setSlot (q.1.2 ci j) v) → H'.size = H.size → (∀ b, b ≠ a → H'[b]? = H[b]?) → va_P q.1 vwCl ((va_pl (z_L G) (z_c q.2.1 G D)).set p0 (a, .inr (ci, ((z_T ci).map (z_fv G D a)).set j v))) H' := fun H' f1 f2 f3 =>
    hR.1.set hR.D hp0 ⟨_, hc, t_OB.to (V := updV (vp_V ((z_T ci).map (z_fv G D a))) j v) ⟨_, f1, q2, q3, t_set q4 hap hj v⟩ (fun i _ => vp_updV_set hll v i)⟩ f3
  unfold u_lay at hlay
  rcases hfin with hfin | ⟨hfin, hnm1, hdecl⟩
  · rw [if_neg (by rw [hfin]; decide)] at hlay
    refine W.putK o.ex o.cd (f := f) ⟨o.ow, o.tw hw rfl, ⟨_, _, _, hi⟩, hst⟩ (by rw [q2]; exact u_store hfc hkC hkind hlay hi (hty j hj) hn hfit) q1 q3 (by rw [hsl]; exact k2_hasslot (q4 j hj)) rfl rfl d fun H' f1 f2 f3 => ?_
    rw [hsl] at f1 ⊢
    exact fin H' _ (done H' f1 f2 f3) f2 f3 (hl2 _)
  · rw [if_pos hfin] at hlay
    have hcf : (x_m X).cls = cf := by
      obtain ⟨_, _, c', _, _, _, -, -, hf', -, -, -, hown2, -⟩ := Cond.laysFinal_spec hlay
      have e9 : c' = cf := by have := hi.symm.trans hf'; simp at this; exact this.1.symm
      rw [hdecl] at hown2
      rw [← e9]; exact Option.some.inj (o.ow.symm.trans hown2)
    refine W.putFinK o.ex o.cd o.ow (o.tw hw rfl) hi hst hcf (o.na.trans hnm1) (by rw [q2]; exact u_fits hfc hkC hkind (Or.inr hlay) hi (hty j hj) hn hfit) q1 q3 (by rw [hsl]; exact k2_hasslot (q4 j hj)) rfl rfl d fun H' f1 f2 f3 => ?_
    rw [hsl] at f1 ⊢
    exact fin H' _ (done H' f1 f2 f3) f2 f3 (hl2 _)
/-- int, long and reference fields -/
theorem z_cne {a b : Nat} {k : Nat} {G1 : z_G} {D1 : z_D} (hKe : z_K G1 = z_K G) (hN : z_N G1 = z_N G) (hA : z_A G1 = z_A G) (hU : z_U D1 = z_U D) (hY : z_Y D1 = z_Y D) (hI : ∀ k, z_I D1 k b = z_I D k b) (hJ : ∀ k, z_J D1 k b = z_J D k b) (hRf : ∀ k, z_R G1 k b = z_R G k b) : z_c q.2.1 G1 D1 b = z_c q.2.1 G D b := by
  have hf : z_fv G1 D1 b = z_fv G D b := by
    funext p
    unfold z_fv
    rw [hI, hJ, hRf]
  unfold z_c
  rw [hKe, hN, hA, hU, hY, hf]
theorem z_putI (o : z_O q X cc nL own nm ret) (ci j : Nat) {C : String} {T : u_T} {N : Nat} (hc : vwCl[ci]? = some (C, T, N)) (hin : ∀ w ∈ u_ws C T N, w ∈ lw_tbl) (ty0 : Nat → FieldType) (hty : ∀ k, k < N → parseFieldDescriptor (T k).2.2.1 = some (ty0 k)) (hnm : ∀ a, a < N → ∀ b, b < N → a ≠ b → (T a).2.1 ≠ (T b).2.1) (hj : j < N) {key : Nat} (hp : (z_T ci)[j]? = some (0, key)) (hu : ((z_T ci).map Prod.snd).Nodup) {a : Nat} (hK : z_K G a = 100 + ci) {v : Int32}
    {i : Nat} (hw : Cond.fieldLink own i (T j).1 (T j).2.1 (T j).2.2.1 ∈ lw_tbl) (hfin : (T j).2.2.2 = false ∨ ((T j).2.2.2 = true ∧ nm = "<init>" ∧ (T j).1 = own)) (hn : narrow (ty0 j) (.int v) = .int v) (hfit : fits (ty0 j) (.int v) = true)
    (d : decode cc pc = .ok (.putfield i, 3)) (h : z_V q X nL Q k n G (z_sI D key a v) (pc + 3) lv st) : z_V q X nL Q k n G D pc lv (.int v :: .ref a :: st) := by
  refine z_put o ci j hc hin ty0 hty hnm hj hK hp hu G (z_sI D key a v) rfl rfl rfl (by simp [z_fv, z_I_sI]) (fun p' hne => ?_) (fun b hb => ?_) hw hfin hn hfit d h
  · have : ∀ z, ¬ (p'.2 = key ∧ z) := fun z h9 => hne h9.1
    unfold z_fv
    rw [z_I_sI, if_neg (this _), z_J_sI]
  · exact z_cne (a := a) (k := key) rfl rfl rfl rfl rfl (fun k => by rw [z_I_sI, if_neg (fun h9 => hb h9.2)]) (fun _ => rfl) (fun _ => rfl)
theorem z_putJ (o : z_O q X cc nL own nm ret) (ci j : Nat) {C : String} {T : u_T} {N : Nat} (hc : vwCl[ci]? = some (C, T, N)) (hin : ∀ w ∈ u_ws C T N, w ∈ lw_tbl) (ty0 : Nat → FieldType) (hty : ∀ k, k < N → parseFieldDescriptor (T k).2.2.1 = some (ty0 k)) (hnm : ∀ a, a < N → ∀ b, b < N → a ≠ b → (T a).2.1 ≠ (T b).2.1) (hj : j < N) {key : Nat} (hp : (z_T ci)[j]? = some (1, key)) (hu : ((z_T ci).map Prod.snd).Nodup) {a : Nat} (hK : z_K G a = 100 + ci) {v : Int64}
    {i : Nat} (hw : Cond.fieldLink own i (T j).1 (T j).2.1 (T j).2.2.1 ∈ lw_tbl) (hfin : (T j).2.2.2 = false ∨ ((T j).2.2.2 = true ∧ nm = "<init>" ∧ (T j).1 = own)) (hn : narrow (ty0 j) (.long v) = .long v) (hfit : fits (ty0 j) (.long v) = true)
    (d : decode cc pc = .ok (.putfield i, 3)) (h : z_V q X nL Q k n G (z_sJ D key a v) (pc + 3) lv st) : z_V q X nL Q k n G D pc lv (.long v :: .ref a :: st) := by
  refine z_put o ci j hc hin ty0 hty hnm hj hK hp hu G (z_sJ D key a v) rfl rfl rfl (by simp [z_fv, z_J_sJ]) (fun p' hne => ?_) (fun b hb => ?_) hw hfin hn hfit d h
  · have : ∀ z, ¬ (p'.2 = key ∧ z) := fun z h9 => hne h9.1
    unfold z_fv
    rw [z_J_sJ, if_neg (this _), z_I_sJ]
  · exact z_cne (a := a) (k := key) rfl rfl rfl rfl rfl (fun _ => rfl) (fun k => by rw [z_J_sJ, if_neg (fun h9 => hb h9.2)]) (fun _ => rfl)
theorem z_R_sR (G : z_G) (k a v : Nat) (k' a' : Nat) : z_R (z_sR G k a v) k' a' = if k' = k ∧ a' = a then v else z_R G k' a' := rfl
theorem z_putR (o : z_O q X cc nL own nm ret) (ci j : Nat) {C : String} {T : u_T} {N : Nat} (hc : vwCl[ci]? = some (C, T, N)) (hin : ∀ w ∈ u_ws C T N, w ∈ lw_tbl) (ty0 : Nat → FieldType) (hty : ∀ k, k < N → parseFieldDescriptor (T k).2.2.1 = some (ty0 k)) (hnm : ∀ a, a < N → ∀ b, b < N → a ≠ b → (T a).2.1 ≠ (T b).2.1) (hj : j < N) {key : Nat} (hp : (z_T ci)[j]? = some (2, key)) (hu : ((z_T ci).map Prod.snd).Nodup) {a : Nat} (hK : z_K G a = 100 + ci) {v : Nat} (hv0 : v ≠ 0)
    {i : Nat} (hw : Cond.fieldLink own i (T j).1 (T j).2.1 (T j).2.2.1 ∈ lw_tbl) (hfin : (T j).2.2.2 = false ∨ ((T j).2.2.2 = true ∧ nm = "<init>" ∧ (T j).1 = own)) (hn : narrow (ty0 j) (.ref v) = .ref v) (hfit : fits (ty0 j) (.ref v) = true)
    (d : decode cc pc = .ok (.putfield i, 3)) (h : z_V q X nL Q k n (z_sR G key a v) D (pc + 3) lv st) : z_V q X nL Q k n G D pc lv (.ref v :: .ref a :: st) := by
  refine z_put o ci j hc hin ty0 hty hnm hj hK hp hu (z_sR G key a v) D rfl rfl rfl (by simp [z_fv, z_R_sR, z_o, hv0, va_rf]) (fun p' hne => ?_) (fun b hb => ?_) hw hfin hn hfit d h
  · have : ∀ z, ¬ (p'.2 = key ∧ z) := fun z h9 => hne h9.1
    unfold z_fv
    rw [z_R_sR, if_neg (this _)]
  · exact z_cne (a := a) (k := key) rfl rfl rfl rfl rfl (fun _ => rfl) (fun _ => rfl) (fun k => by rw [z_R_sR, if_neg (fun h9 => hb h9.2)])
end ZF
end
section
section ZA
variable {q : z_Q} {X : z_X} {cc : ByteArray} {nL : Nat} {own nm : String} {ret : Option FieldType} {Q : State → Prop} {k n : Nat} {G : z_G} {D : z_D} {pc : Nat} {lv : List (Nat × Value)} {st : List Value}
theorem z_lc {locs : List Loc} {a : Nat} (hl : ∀ l ∈ locs, z_b q ≤ l.base) (hba : z_b q ≤ a) (sl : Nat) : ∀ l ∈ locs ++ [⟨a, sl⟩], z_b q ≤ l.base := fun l hlm => by
  rcases List.mem_append.mp hlm with h9 | h9
  · exact hl l h9
  · rw [List.mem_singleton.mp h9]
    exact hba
theorem v_iald (o : z_O q X cc nL own nm ret) {a : Nat} {i : Int32} (hK : z_K G a = 1) (hi : vp_in i (z_N G a)) (d : decode cc pc = .ok (.iaload, 1)) (h : z_V q X nL Q k n G D (pc + 1) lv (.int (z_U D a i.toNatClampNeg) :: st)) : z_V q X nL Q k n G D pc lv (.int i :: .ref a :: st) := by
  intro H locs ls hR hl hv
  obtain ⟨p0, hp⟩ := hR.get (show z_K G a ≠ 0 by omega)
  rw [z_c_1 hK] at hp
  exact va_iald o.ex o.cd o.kn hR.1 p0 0 hp rfl hi d (h H locs ls hR hl hv)
theorem v_lald (o : z_O q X cc nL own nm ret) {a : Nat} {i : Int32} (hK : z_K G a = 2) (hi : vp_in i (z_N G a)) (d : decode cc pc = .ok (.laload, 1)) (h : z_V q X nL Q k n G D (pc + 1) lv (.long (z_Y D a i.toNatClampNeg) :: st)) : z_V q X nL Q k n G D pc lv (.int i :: .ref a :: st) := by
  intro H locs ls hR hl hv
  obtain ⟨p0, hp⟩ := hR.get (show z_K G a ≠ 0 by omega)
  rw [z_c_2 hK] at hp
  exact va_lald o.ex o.cd o.kn hR.1 p0 1 hp rfl hi d (h H locs ls hR hl hv)
theorem v_aald (o : z_O q X cc nL own nm ret) {a : Nat} {i : Int32} (hK : z_K G a = 3) (hi : vp_in i (z_N G a)) (hz : z_A G a i.toNatClampNeg ≠ 0) (d : decode cc pc = .ok (.aaload, 1)) (h : z_V q X nL Q k n G D (pc + 1) lv (.ref (z_A G a i.toNatClampNeg) :: st)) : z_V q X nL Q k n G D pc lv (.int i :: .ref a :: st) := by
  intro H locs ls hR hl hv
  obtain ⟨p0, hp⟩ := hR.get (show z_K G a ≠ 0 by omega)
  rw [z_c_3 hK] at hp
  refine va_aldq o.ex o.cd o.kn hR.1 p0 2 hp rfl hi d ?_
  have e : z_o (z_A G a i.toNatClampNeg) = some (z_A G a i.toNatClampNeg) := by unfold z_o; rw [if_neg hz]
  show z_W X H locs k n Q (F0 (x_m X) (pc + 1) ls (va_rf (z_o (z_A G a i.toNatClampNeg)) :: st))
  rw [e]
  exact h H locs ls hR hl hv
theorem v_alen (o : z_O q X cc nL own nm ret) {a : Nat} (hK : z_K G a = 1) (d : decode cc pc = .ok (.arraylength, 1)) (h : z_V q X nL Q k n G D (pc + 1) lv (.int (Int32.ofNat (z_N G a)) :: st)) : z_V q X nL Q k n G D pc lv (.ref a :: st) := by
  intro H locs ls hR hl hv
  obtain ⟨p0, hp⟩ := hR.get (show z_K G a ≠ 0 by omega)
  rw [z_c_1 hK] at hp
  exact va_alen o.ex o.cd o.kn hR.1 p0 0 hp rfl rfl d (h H locs ls hR hl hv)
theorem z_cneU {a b j : Nat} {v : Int32} (hb : b ≠ a) : z_c q.2.1 G (z_sU D a j v) b = z_c q.2.1 G D b := by
  have hU : z_U (z_sU D a j v) b = z_U D b := by
    funext i
    rw [z_U_sU, if_neg (fun h9 => hb h9.1)]
  have hf : z_fv G (z_sU D a j v) b = z_fv G D b := rfl
  have hY : z_Y (z_sU D a j v) b = z_Y D b := rfl
  unfold z_c
  rw [hU, hf, hY]
theorem z_cneY {a b j : Nat} {v : Int64} (hb : b ≠ a) : z_c q.2.1 G (z_sY D a j v) b = z_c q.2.1 G D b := by
  have hU : z_Y (z_sY D a j v) b = z_Y D b := by
    funext i
    rw [z_Y_sY, if_neg (fun h9 => hb h9.1)]
  have hf : z_fv G (z_sY D a j v) b = z_fv G D b := rfl
  have hY : z_U (z_sY D a j v) b = z_U D b := rfl
  unfold z_c
  rw [hU, hf, hY]
theorem v_iast (o : z_O q X cc nL own nm ret) {a : Nat} {i x : Int32} (hK : z_K G a = 1) (hi : vp_in i (z_N G a)) (d : decode cc pc = .ok (.iastore, 1)) (h : z_V q X nL Q k n G (z_sU D a i.toNatClampNeg x) (pc + 1) lv st) : z_V q X nL Q k n G D pc lv (.int x :: .int i :: .ref a :: st) := by
  intro H locs ls hR hl hv
  have hK0 : z_K G a ≠ 0 := by omega
  obtain ⟨p0, hp⟩ := hR.get hK0
  have hp1 := hp
  rw [z_c_1 hK] at hp
  have hba : z_b q ≤ a := hR.2.1.1 a (hR.mem hK0)
  refine W.iast o.ex o.cd (hR.1 p0 _ hp) ((o.kn.2 0 _ rfl).1 _ (fun j => .int (z_U D a j))) (fun e => by cases e) (by show ¬ (i < 0 ∨ (arrV _ _ _).slots.size ≤ _); rw [arrV_size]; exact hi) rfl rfl d fun H1 e z oq => ?_
  have hP1 : va_P q.1 vwCl ((va_pl (z_L G) (z_c q.2.1 G D)).set p0 (a, .inl (q.2.1.1, z_N G a, .inl (z_U (z_sU D a i.toNatClampNeg x) a)))) H1 := by
    refine hR.1.set hR.D hp ?_ oq
    show H1[a]? = some (vp_cell _ _)
    rw [e]
    show some ((arrV _ _ _).setSlot _ _) = _
    rw [vp_cell_i, arrV_store]
    congr 2
    funext j
    unfold updV
    rw [z_U_sU]
    by_cases hj : j = i.toNatClampNeg
    · rw [if_pos hj, if_pos ⟨rfl, hj⟩]
    · rw [if_neg hj, if_neg (fun h9 => hj h9.2)]
  rw [z_pl_set hR.D (hR.mem hK0) hp1] at hP1
  exact h H1 _ ls (hR.upd hK0 rfl rfl rfl (z_c_1 hK) (fun b hb => z_cneU hb) hP1 z (fun b hb => oq b (fun e => absurd hb (by rw [e]; exact Nat.not_lt.mpr hba)))) (z_lc hl hba _) hv
theorem v_last (o : z_O q X cc nL own nm ret) {a : Nat} {i : Int32} {x : Int64} (hK : z_K G a = 2) (hi : vp_in i (z_N G a)) (d : decode cc pc = .ok (.lastore, 1)) (h : z_V q X nL Q k n G (z_sY D a i.toNatClampNeg x) (pc + 1) lv st) : z_V q X nL Q k n G D pc lv (.long x :: .int i :: .ref a :: st) := by
  intro H locs ls hR hl hv
  have hK0 : z_K G a ≠ 0 := by omega
  obtain ⟨p0, hp⟩ := hR.get hK0
  have hp1 := hp
  rw [z_c_2 hK] at hp
  have hba : z_b q ≤ a := hR.2.1.1 a (hR.mem hK0)
  refine W.last o.ex o.cd (hR.1 p0 _ hp) ((o.kn.2 1 _ rfl).1 _ (fun j => .long (z_Y D a j))) (fun e => by cases e) (by show ¬ (i < 0 ∨ (arrV _ _ _).slots.size ≤ _); rw [arrV_size]; exact hi) rfl rfl d fun H1 e z oq => ?_
  have hP1 : va_P q.1 vwCl ((va_pl (z_L G) (z_c q.2.1 G D)).set p0 (a, .inl (q.2.1.2.1, z_N G a, .inr (.inl (z_Y (z_sY D a i.toNatClampNeg x) a))))) H1 := by
    refine hR.1.set hR.D hp ?_ oq
    show H1[a]? = some (vp_cell _ _)
    rw [e]
    show some ((arrV _ _ _).setSlot _ _) = _
    rw [vp_cell_l, arrV_store]
    congr 2
    funext j
    unfold updV
    rw [z_Y_sY]
    by_cases hj : j = i.toNatClampNeg
    · rw [if_pos hj, if_pos ⟨rfl, hj⟩]
    · rw [if_neg hj, if_neg (fun h9 => hj h9.2)]
  rw [z_pl_set hR.D (hR.mem hK0) hp1] at hP1
  exact h H1 _ ls (hR.upd hK0 rfl rfl rfl (z_c_2 hK) (fun b hb => z_cneY hb) hP1 z (fun b hb => oq b (fun e => absurd hb (by rw [e]; exact Nat.not_lt.mpr hba)))) (z_lc hl hba _) hv
end ZA
/-! contracts -/
def z_rm (dp mc ms : Nat) : Room := { frames := dp, cells := mc, slots := ms, locals := 40 * dp }
def z_Pre (q : z_Q) (G : z_G) (D : z_D) (U : State) : Prop := z_Rel q G D U.heap ∧ va_K q.1 vwCl (z_ty q) U ∧ z_St q U
def z_Qc (q : z_Q) (r : Option Value) (G : z_G) (D : z_D) : Array Value → State → Outcome → State → Prop := fun _ _ oc t => oc = .returned r ∧ z_Rel q G D t.heap
/-- the method y, called with av in the store (G, D), comes back with r, in the store (G1, D1) -/
def z_E (q : z_Q) (l : Launch) (y : MethodName) (bytes : ByteArray) (maxL : Nat) (ret : Option FieldType) (dp mc ms : Nat) (av : List Value) (G : z_G) (D : z_D) (r : Option Value) (G1 : z_G) (D1 : z_D) : Prop :=
  Met l y (Cond.code y bytes maxL ret :: z_tb) (z_rm dp mc ms) (va_Pc av (z_Pre q G D)) (z_Qc q r G1 D1) mc ms (fun a => z_b q ≤ a)
/-- the end of a method: the state as the contract says it -/
def z_F (q : z_Q) (X : z_X) (r : Option Value) (G : z_G) (D : z_D) (mc ms : Nat) : State → Prop := MQ (x_b X) (z_Qc q r G D) (x_a X) (x_s X) mc ms (fun a => z_b q ≤ a)
theorem z_E.of {q : z_Q} {l : Launch} {y : MethodName} {bytes : ByteArray} {maxL : Nat} {ret : Option FieldType} {dp mc ms : Nat} {av : List Value} {G : z_G} {D : z_D} {r : Option Value} {G1 : z_G} {D1 : z_D} (hy : plainName y.cls = true) (hn : (lg_sl av).length ≤ maxL)
    (h : ∀ X : z_X, x_R X = z_rm dp mc ms → x_l X = l → z_O q X bytes maxL y.cls y.name ret → z_V q X maxL (z_F q X r G1 D1 mc ms) 0 0 G D 0 (lv_args 0 av) []) : z_E q l y bytes maxL ret dp mc ms av G D r G1 D1 := by
  refine Met.ofW (cc := bytes) (maxL := maxL) (ret := ret) hy rfl ?_
  intro p e s m args below meth c s₁ B hml hv
  obtain ⟨rfl, hR, hK, hSt⟩ := hv
  have hts := atoms_spec (ws := Cond.code y bytes maxL ret :: z_tb) B.pre
  rw [lg_entry_eq]
  exact h (p, l, e, z_rm dp mc ms, s, m, av.toArray, below, meth, c) rfl rfl ⟨B.exec, B.bytes, B.returns, hml, findClass_of_methodNamed B.named, fun w hw => hts w (List.mem_cons_of_mem _ hw), B.notSynchronized, hK, hSt, (name_of_methodNamed B.named B.method).1, hR.2.2.1, hR.2.2.2.1⟩ s.heap [] _ hR (fun l hl => by cases hl) (lv_entry av hn)
section ZE
variable {q : z_Q} {X : z_X} {cc : ByteArray} {nL : Nat} {own nm : String} {ret : Option FieldType} {Q : State → Prop} {k n : Nat} {G : z_G} {D : z_D} {pc : Nat} {lv : List (Nat × Value)} {st : List Value}
theorem v_ireturn (o : z_O q X cc nL own nm (some .int)) {v : Int32} (d : decode cc pc = .ok (.ireturn, 1)) : z_V q X nL (z_F q X (some (.int v)) G D k n) k n G D pc lv [.int v] :=
  fun H locs ls hR hl hv => W.iret o.ex o.cd o.rt (fun t ht _ => ⟨rfl, by rw [ht]; exact hR⟩) hl d o.lk
theorem v_zreturn (o : z_O q X cc nL own nm (some .boolean)) {v : Int32} (hz : narrow .boolean (.int v) = .int v) (d : decode cc pc = .ok (.ireturn, 1)) : z_V q X nL (z_F q X (some (.int v)) G D k n) k n G D pc lv [.int v] :=
  fun H locs ls hR hl hv => W.zret o.ex o.cd o.rt hz (fun t ht _ => ⟨rfl, by rw [ht]; exact hR⟩) hl d o.lk
theorem v_lreturn (o : z_O q X cc nL own nm (some .long)) {v : Int64} (d : decode cc pc = .ok (.lreturn, 1)) : z_V q X nL (z_F q X (some (.long v)) G D k n) k n G D pc lv [.long v] :=
  fun H locs ls hR hl hv => W.lret o.ex o.cd o.rt (fun t ht _ => ⟨rfl, by rw [ht]; exact hR⟩) hl d o.lk
theorem v_areturn {C : String} (o : z_O q X cc nL own nm (some (.object C))) {v : Nat} (d : decode cc pc = .ok (.areturn, 1)) : z_V q X nL (z_F q X (some (.ref v)) G D k n) k n G D pc lv [.ref v] :=
  fun H locs ls hR hl hv => W.aret o.ex o.cd o.rt (Or.inl ⟨_, rfl⟩) (Or.inr ⟨_, rfl⟩) (fun t ht _ => ⟨rfl, by rw [ht]; exact hR⟩) hl d o.lk
theorem v_return (o : z_O q X cc nL own nm none) (d : decode cc pc = .ok (.return_, 1)) : z_V q X nL (z_F q X none G D k n) k n G D pc lv [] :=
  fun H locs ls hR hl hv => W.vret o.ex o.cd o.rt (fun t ht _ => ⟨rfl, by rw [ht]; exact hR⟩) hl d o.lk
theorem z_Pre.blind {q : z_Q} {G : z_G} {D : z_D} {av : List Value} : FrameBlind (va_Pc av (z_Pre q G D)) := fun a U g mk h => ⟨h.1, h.2.1, va_K.moved (u := U) (U := U.calling g mk a) (Vm.Alike.refl U.vm) h.2.2.1, z_St.same (s := U) (U := U.calling g mk a) rfl h.2.2.2⟩
theorem z_back {H : Heap} {locs : List Loc} {mc ms : Nat} {ls : Array Slot} {st0 : List Value} {r : Option Value} {G1 : z_G} {D1 : z_D} {a : Array Value} (hr : va_Run (x_p X) (x_l X) (x_e X) (x_R X) (x_s X) (x_m X) (x_a X) (x_b X) (x_h X) (x_c X) H locs k n mc ms (F0 (x_m X) pc ls st0) st (z_Qc q r G1 D1 a) (fun a => z_b q ≤ a)) (hl : ∀ l ∈ locs, z_b q ≤ l.base) (hv : lv_has ls nL lv) (h : z_V q X nL Q (k + mc) (n + ms) G1 D1 (pc + 3) lv (r.toList ++ st)) : z_W X H locs k n Q (F0 (x_m X) pc ls st0) := by
  intro T hT Y
  obtain ⟨v, st₀, t, T', L, h0, Y', hL, e1, e2, ⟨hv1, hR1⟩, go⟩ := hr T hT Y
  cases hv1
  obtain ⟨t2, a1, b1⟩ := h T'.heap (locs ++ L) ls (by rw [e1]; exact hR1) (fun l hm => by
    rcases List.mem_append.mp hm with h9 | h9
    · exact hl l h9
    · exact hL l h9) hv T' rfl Y'
  exact ⟨t2, go t2 a1, b1⟩
/-- what the tables say of a method: its code, its class, its parameters -/
def z_yw (y : MethodName) (bytes : ByteArray) (maxL : Nat) (ret : Option FieldType) (m : Nat) : Prop := Cond.code y bytes maxL ret ∈ lw_tbl ∧ Cond.initialized y.cls ∈ lw_tbl ∧ (y.cls ≠ "java/lang/invoke/MethodHandle" ∧ y.cls ≠ "java/lang/invoke/VarHandle" ∧ (parseMethodDescriptor y.desc).map (fun d => d.parameters.length) = some m)
theorem z_GI {y : MethodName} {bytes : ByteArray} {maxL : Nat} {ret : Option FieldType} (h : Cond.code y bytes maxL ret ∈ lw_tbl) : GoodIn z_tb (Cond.code y bytes maxL ret :: z_tb) := fun w hw => by
  rcases List.mem_cons.mp hw with rfl | hw
  · exact ⟨z_tb_in h rfl, good_of_word rfl⟩
  · exact ⟨hw, z_tb_good hw⟩
variable {y : MethodName} {bytes : ByteArray} {maxL : Nat} {ret' : Option FieldType} {dp mc ms nA i b : Nat} {As : List Value} {st0 : List Value} {r : Option Value} {G1 : z_G} {D1 : z_D} {R0 : Room}
theorem z_cB (o : z_O q X cc nL own nm ret) (yw : z_yw y bytes maxL ret' nA) (hw : Cond.methodLink own i y ∈ lw_tbl) (hX : x_R X = R0) (hr : dp + 1 ≤ R0.frames ∧ 8 + (maxL + 11) + 40 * dp ≤ R0.locals ∧ k + mc ≤ R0.cells ∧ n + ms ≤ R0.slots) : CallB (x_R X) (x_s X) (x_a X) own i y bytes maxL ret' (Cond.code y bytes maxL ret' :: z_tb) (z_rm dp mc ms) mc ms nA :=
  callB_of nA o.ts (z_GI yw.1) rfl rfl rfl (o.tw yw.2.1 rfl) (o.tw hw rfl) yw.2.2 (by rw [hX]; exact ⟨hr.1, hr.2.1⟩)
theorem z_cf (hX : x_R X = R0) (hr : dp + 1 ≤ R0.frames ∧ 8 + (maxL + 11) + 40 * dp ≤ R0.locals ∧ k + mc ≤ R0.cells ∧ n + ms ≤ R0.slots) : k + mc ≤ (x_R X).cells ∧ n + ms ≤ (x_R X).slots := by rw [hX]; exact hr.2.2
/-- invokevirtual -/
theorem v_callV (o : z_O q X cc nL own nm ret) (yw : z_yw y bytes maxL ret' nA) (hw : Cond.methodLink own i y ∈ lw_tbl) (hwi : Cond.instanceMethod y ∈ lw_tbl) (hws : Cond.selects y.cls y y ∈ lw_tbl) (hX : x_R X = R0) (hr : dp + 1 ≤ R0.frames ∧ 8 + (maxL + 11) + 40 * dp ≤ R0.locals ∧ k + mc ≤ R0.cells ∧ n + ms ≤ R0.slots)
    (ci : Nat) {T : u_T} {N : Nat} (hc : vwCl[ci]? = some (y.cls, T, N)) (hK : z_K G b = 100 + ci) (hn : As.length = nA) (hst : st0 = As.reverse ++ .ref b :: st) (hW : (st.map fun v => v.category).sum ≤ 8) (E : z_E q (x_l X) y bytes maxL ret' dp mc ms (.ref b :: As) G D r G1 D1) (d : decode cc pc = .ok (.invokevirtual i, 3))
    (h : z_V q X nL Q (k + mc) (n + ms) G1 D1 (pc + 3) lv (r.toList ++ st)) : z_V q X nL Q k n G D pc lv st0 := by
  intro H locs ls hR hl hv
  obtain ⟨p0, hp⟩ := hR.get (show z_K G b ≠ 0 by omega)
  rw [z_c_ob hK] at hp
  exact z_back (va_runV (As := As) (rest := st) (n := nA) ⟨o.ex, o.cd, o.ml, o.ow, o.ts⟩ E ⟨z_cB o yw hw hX hr, o.tw hwi rfl, o.tw hws rfl⟩ ⟨z_Pre.blind, va_recv o.kn hR.1 hc hp, fun U hU hW => ⟨rfl, by rw [hU]; exact hR, o.kn.moved hW.alike, o.st.warm hW⟩⟩ rfl hn hv.1 hst (lv_room hW) d (z_cf hX hr)) hl hv h
/-- invokestatic -/
theorem v_callS (o : z_O q X cc nL own nm ret) (yw : z_yw y bytes maxL ret' nA) (hw : Cond.methodLink own i y ∈ lw_tbl) (hws : Cond.static y ∈ lw_tbl) (hX : x_R X = R0) (hr : dp + 1 ≤ R0.frames ∧ 8 + (maxL + 11) + 40 * dp ≤ R0.locals ∧ k + mc ≤ R0.cells ∧ n + ms ≤ R0.slots)
    (hn : As.length = nA) (hst : st0 = As.reverse ++ st) (hW : (st.map fun v => v.category).sum ≤ 8) (E : z_E q (x_l X) y bytes maxL ret' dp mc ms As G D r G1 D1) (d : decode cc pc = .ok (.invokestatic i, 3))
    (h : z_V q X nL Q (k + mc) (n + ms) G1 D1 (pc + 3) lv (r.toList ++ st)) : z_V q X nL Q k n G D pc lv st0 := by
  intro H locs ls hR hl hv
  exact z_back (va_runS (As := As) (rest := st) (n := nA) ⟨o.ex, o.cd, o.ml, o.ow, o.ts⟩ E ⟨z_cB o yw hw hX hr, o.tw hws rfl⟩ ⟨z_Pre.blind, fun U hU hW => ⟨rfl, by rw [hU]; exact hR, o.kn.moved hW.alike, o.st.warm hW⟩⟩ rfl hn hv.1 hst (lv_room hW) d (z_cf hX hr)) hl hv h
/-- invokespecial of a constructor -/
theorem v_callI (o : z_O q X cc nL own nm ret) (yw : z_yw y bytes maxL none nA) (hy : y.name = "<init>") (hw : Cond.methodLink own i y ∈ lw_tbl) (hwi : Cond.instanceMethod y ∈ lw_tbl) (hX : x_R X = R0) (hr : dp + 1 ≤ R0.frames ∧ 8 + (maxL + 11) + 40 * dp ≤ R0.locals ∧ k + mc ≤ R0.cells ∧ n + ms ≤ R0.slots)
    (hn : As.length = nA) (hst : st0 = As.reverse ++ .ref b :: st) (hW : (st.map fun v => v.category).sum ≤ 8) (E : z_E q (x_l X) y bytes maxL none dp mc ms (.ref b :: As) G D none G1 D1) (d : decode cc pc = .ok (.invokespecial i, 3))
    (h : z_V q X nL Q (k + mc) (n + ms) G1 D1 (pc + 3) lv st) : z_V q X nL Q k n G D pc lv st0 := by
  intro H locs ls hR hl hv
  exact z_back (va_runI (As := As) (rest := st) (n := nA) ⟨o.ex, o.cd, o.ml, o.ow, o.ts⟩ E ⟨z_cB o yw hw hX hr, hy, o.tw hwi rfl⟩ ⟨z_Pre.blind, fun U hU hW => ⟨rfl, by rw [hU]; exact hR, o.kn.moved hW.alike, o.st.warm hW⟩⟩ rfl hn hv.1 hst (lv_room hW) d (z_cf hX hr)) hl hv h
end ZE
end
