section
-- ===== PART A: goes FIRST, ahead of the names: the tables' words, and 'selects' of the private methods out of them =====
/-- a private method of a class that the tables say can be made, by its rows of tables_1 -/
def lw_okq (q : MethodName × Nat) : Prop := (q.1.cls ≠ "java/lang/invoke/MethodHandle" ∧ q.1.cls ≠ "java/lang/invoke/VarHandle") ∧ Cond.instantiable q.1.cls q.2 ∈ tables_1 ∧ Cond.privateMethod q.1 ∈ tables_1 ∧ Cond.instanceMethod q.1 ∈ tables_1
theorem lw_p0 : lw_okq (⟨"FlashTrust$States", "becomeFactory", "()V"⟩, 14) := ⟨⟨by decide +kernel, by decide +kernel⟩, List.mem_of_getElem? (i := 303) (by decide +kernel), List.mem_of_getElem? (i := 385) (by decide +kernel), List.mem_of_getElem? (i := 386) (by decide +kernel)⟩
theorem lw_p1 : lw_okq (⟨"FlashTrust$States", "compose", "(I)V"⟩, 14) := ⟨⟨by decide +kernel, by decide +kernel⟩, List.mem_of_getElem? (i := 303) (by decide +kernel), List.mem_of_getElem? (i := 393) (by decide +kernel), List.mem_of_getElem? (i := 394) (by decide +kernel)⟩
theorem lw_p2 : lw_okq (⟨"FlashTrust$States", "look", "()V"⟩, 14) := ⟨⟨by decide +kernel, by decide +kernel⟩, List.mem_of_getElem? (i := 303) (by decide +kernel), List.mem_of_getElem? (i := 419) (by decide +kernel), List.mem_of_getElem? (i := 420) (by decide +kernel)⟩
theorem lw_p3 : lw_okq (⟨"FlashTrust$States", "fits", "(I)Z"⟩, 14) := ⟨⟨by decide +kernel, by decide +kernel⟩, List.mem_of_getElem? (i := 303) (by decide +kernel), List.mem_of_getElem? (i := 429) (by decide +kernel), List.mem_of_getElem? (i := 430) (by decide +kernel)⟩
theorem lw_p4 : lw_okq (⟨"FlashTrust$States", "load", "(I)V"⟩, 14) := ⟨⟨by decide +kernel, by decide +kernel⟩, List.mem_of_getElem? (i := 303) (by decide +kernel), List.mem_of_getElem? (i := 438) (by decide +kernel), List.mem_of_getElem? (i := 439) (by decide +kernel)⟩
theorem lw_p5 : lw_okq (⟨"FlashTrust$Maker", "addProgram", "(LFlashTrust$Row;III)V"⟩, 14) := ⟨⟨by decide +kernel, by decide +kernel⟩, List.mem_of_getElem? (i := 64) (by decide +kernel), List.mem_of_getElem? (i := 581) (by decide +kernel), List.mem_of_getElem? (i := 582) (by decide +kernel)⟩
theorem lw_p6 : lw_okq (⟨"FlashTrust$Maker", "addRoles", "()V"⟩, 14) := ⟨⟨by decide +kernel, by decide +kernel⟩, List.mem_of_getElem? (i := 64) (by decide +kernel), List.mem_of_getElem? (i := 604) (by decide +kernel), List.mem_of_getElem? (i := 605) (by decide +kernel)⟩
theorem lw_p7 : lw_okq (⟨"FlashTrust$Maker", "addImages", "()V"⟩, 14) := ⟨⟨by decide +kernel, by decide +kernel⟩, List.mem_of_getElem? (i := 64) (by decide +kernel), List.mem_of_getElem? (i := 613) (by decide +kernel), List.mem_of_getElem? (i := 614) (by decide +kernel)⟩
theorem lw_p8 : lw_okq (⟨"FlashTrust$Update", "trustedPaper", "(I)LFlashTrust$Paper;"⟩, 10) := ⟨⟨by decide +kernel, by decide +kernel⟩, List.mem_of_getElem? (i := 463) (by decide +kernel), List.mem_of_getElem? (i := 689) (by decide +kernel), List.mem_of_getElem? (i := 690) (by decide +kernel)⟩
theorem lw_p9 : lw_okq (⟨"FlashTrust$Shelf", "counting", "()LFlashTrust$Entry;"⟩, 6) := ⟨⟨by decide +kernel, by decide +kernel⟩, List.mem_of_getElem? (i := 169) (by decide +kernel), List.mem_of_getElem? (i := 702) (by decide +kernel), List.mem_of_getElem? (i := 703) (by decide +kernel)⟩
theorem lw_p10 : lw_okq (⟨"FlashTrust$Shelf", "secondCounts", "()Z"⟩, 6) := ⟨⟨by decide +kernel, by decide +kernel⟩, List.mem_of_getElem? (i := 169) (by decide +kernel), List.mem_of_getElem? (i := 706) (by decide +kernel), List.mem_of_getElem? (i := 707) (by decide +kernel)⟩
theorem lw_p11 : lw_okq (⟨"FlashTrust$Paper", "readHead", "()Z"⟩, 15) := ⟨⟨by decide +kernel, by decide +kernel⟩, List.mem_of_getElem? (i := 175) (by decide +kernel), List.mem_of_getElem? (i := 719) (by decide +kernel), List.mem_of_getElem? (i := 720) (by decide +kernel)⟩
theorem lw_p12 : lw_okq (⟨"FlashTrust$Paper", "readKeys", "()Z"⟩, 15) := ⟨⟨by decide +kernel, by decide +kernel⟩, List.mem_of_getElem? (i := 175) (by decide +kernel), List.mem_of_getElem? (i := 724) (by decide +kernel), List.mem_of_getElem? (i := 725) (by decide +kernel)⟩
theorem lw_p13 : lw_okq (⟨"FlashTrust$Paper", "readRoot", "()Z"⟩, 15) := ⟨⟨by decide +kernel, by decide +kernel⟩, List.mem_of_getElem? (i := 175) (by decide +kernel), List.mem_of_getElem? (i := 733) (by decide +kernel), List.mem_of_getElem? (i := 734) (by decide +kernel)⟩
theorem lw_p14 : lw_okq (⟨"FlashTrust$Paper", "readTold", "()Z"⟩, 15) := ⟨⟨by decide +kernel, by decide +kernel⟩, List.mem_of_getElem? (i := 175) (by decide +kernel), List.mem_of_getElem? (i := 737) (by decide +kernel), List.mem_of_getElem? (i := 738) (by decide +kernel)⟩
theorem lw_p15 : lw_okq (⟨"FlashTrust$Paper", "readImages", "()Z"⟩, 15) := ⟨⟨by decide +kernel, by decide +kernel⟩, List.mem_of_getElem? (i := 175) (by decide +kernel), List.mem_of_getElem? (i := 741) (by decide +kernel), List.mem_of_getElem? (i := 742) (by decide +kernel)⟩
def lw_privs_1 : List (MethodName × Nat) := [(⟨"FlashTrust$States", "becomeFactory", "()V"⟩, 14), (⟨"FlashTrust$States", "compose", "(I)V"⟩, 14), (⟨"FlashTrust$States", "look", "()V"⟩, 14), (⟨"FlashTrust$States", "fits", "(I)Z"⟩, 14), (⟨"FlashTrust$States", "load", "(I)V"⟩, 14), (⟨"FlashTrust$Maker", "addProgram", "(LFlashTrust$Row;III)V"⟩, 14), (⟨"FlashTrust$Maker", "addRoles", "()V"⟩, 14), (⟨"FlashTrust$Maker", "addImages", "()V"⟩, 14), (⟨"FlashTrust$Update", "trustedPaper", "(I)LFlashTrust$Paper;"⟩, 10), (⟨"FlashTrust$Shelf", "counting", "()LFlashTrust$Entry;"⟩, 6), (⟨"FlashTrust$Shelf", "secondCounts", "()Z"⟩, 6), (⟨"FlashTrust$Paper", "readHead", "()Z"⟩, 15), (⟨"FlashTrust$Paper", "readKeys", "()Z"⟩, 15), (⟨"FlashTrust$Paper", "readRoot", "()Z"⟩, 15), (⟨"FlashTrust$Paper", "readTold", "()Z"⟩, 15), (⟨"FlashTrust$Paper", "readImages", "()Z"⟩, 15)]
theorem lw_r1 : ∀ q ∈ lw_privs_1, lw_okq q := List.forall_mem_cons.mpr ⟨lw_p0, List.forall_mem_cons.mpr ⟨lw_p1, List.forall_mem_cons.mpr ⟨lw_p2, List.forall_mem_cons.mpr ⟨lw_p3, List.forall_mem_cons.mpr ⟨lw_p4, List.forall_mem_cons.mpr ⟨lw_p5, List.forall_mem_cons.mpr ⟨lw_p6, List.forall_mem_cons.mpr ⟨lw_p7, List.forall_mem_cons.mpr ⟨lw_p8, List.forall_mem_cons.mpr ⟨lw_p9, List.forall_mem_cons.mpr ⟨lw_p10, List.forall_mem_cons.mpr ⟨lw_p11, List.forall_mem_cons.mpr ⟨lw_p12, List.forall_mem_cons.mpr ⟨lw_p13, List.forall_mem_cons.mpr ⟨lw_p14, List.forall_mem_cons.mpr ⟨lw_p15, fun _ h => absurd h List.not_mem_nil⟩⟩⟩⟩⟩⟩⟩⟩⟩⟩⟩⟩⟩⟩⟩⟩
theorem lw_p16 : lw_okq (⟨"FlashTrust$Update", "fail", "(I)I"⟩, 10) := ⟨⟨by decide +kernel, by decide +kernel⟩, List.mem_of_getElem? (i := 463) (by decide +kernel), List.mem_of_getElem? (i := 745) (by decide +kernel), List.mem_of_getElem? (i := 746) (by decide +kernel)⟩
theorem lw_p17 : lw_okq (⟨"FlashTrust$Update", "hasRole", "(LFlashTrust$Paper;LFlashTrust$Paper;I)Z"⟩, 10) := ⟨⟨by decide +kernel, by decide +kernel⟩, List.mem_of_getElem? (i := 463) (by decide +kernel), List.mem_of_getElem? (i := 753) (by decide +kernel), List.mem_of_getElem? (i := 754) (by decide +kernel)⟩
theorem lw_p18 : lw_okq (⟨"FlashTrust$Flash", "powerHolds", "()Z"⟩, 6) := ⟨⟨by decide +kernel, by decide +kernel⟩, List.mem_of_getElem? (i := 126) (by decide +kernel), List.mem_of_getElem? (i := 780) (by decide +kernel), List.mem_of_getElem? (i := 781) (by decide +kernel)⟩
theorem lw_p19 : lw_okq (⟨"FlashTrust$Update", "finishProgram", "()I"⟩, 10) := ⟨⟨by decide +kernel, by decide +kernel⟩, List.mem_of_getElem? (i := 463) (by decide +kernel), List.mem_of_getElem? (i := 815) (by decide +kernel), List.mem_of_getElem? (i := 816) (by decide +kernel)⟩
theorem lw_p20 : lw_okq (⟨"FlashTrust$States", "nextBlank", "(I)I"⟩, 14) := ⟨⟨by decide +kernel, by decide +kernel⟩, List.mem_of_getElem? (i := 303) (by decide +kernel), List.mem_of_getElem? (i := 828) (by decide +kernel), List.mem_of_getElem? (i := 829) (by decide +kernel)⟩
theorem lw_p21 : lw_okq (⟨"FlashTrust$Update", "judge", "(LFlashTrust$Paper;I)I"⟩, 10) := ⟨⟨by decide +kernel, by decide +kernel⟩, List.mem_of_getElem? (i := 463) (by decide +kernel), List.mem_of_getElem? (i := 842) (by decide +kernel), List.mem_of_getElem? (i := 843) (by decide +kernel)⟩
theorem lw_p22 : lw_okq (⟨"FlashTrust$Update", "isTrustedAsTold", "(I)Z"⟩, 10) := ⟨⟨by decide +kernel, by decide +kernel⟩, List.mem_of_getElem? (i := 463) (by decide +kernel), List.mem_of_getElem? (i := 856) (by decide +kernel), List.mem_of_getElem? (i := 857) (by decide +kernel)⟩
theorem lw_p23 : lw_okq (⟨"FlashTrust$Update", "chooseImage", "()I"⟩, 10) := ⟨⟨by decide +kernel, by decide +kernel⟩, List.mem_of_getElem? (i := 463) (by decide +kernel), List.mem_of_getElem? (i := 860) (by decide +kernel), List.mem_of_getElem? (i := 861) (by decide +kernel)⟩
theorem lw_p24 : lw_okq (⟨"FlashTrust", "unlessDown", "(I)I"⟩, 7) := ⟨⟨by decide +kernel, by decide +kernel⟩, List.mem_of_getElem? (i := 16) (by decide +kernel), List.mem_of_getElem? (i := 880) (by decide +kernel), List.mem_of_getElem? (i := 881) (by decide +kernel)⟩
theorem lw_p25 : lw_okq (⟨"FlashTrust$Loader", "startTrial", "()I"⟩, 4) := ⟨⟨by decide +kernel, by decide +kernel⟩, List.mem_of_getElem? (i := 442) (by decide +kernel), List.mem_of_getElem? (i := 930) (by decide +kernel), List.mem_of_getElem? (i := 931) (by decide +kernel)⟩
theorem lw_p26 : lw_okq (⟨"FlashTrust$Loader", "startConfirmed", "()I"⟩, 4) := ⟨⟨by decide +kernel, by decide +kernel⟩, List.mem_of_getElem? (i := 442) (by decide +kernel), List.mem_of_getElem? (i := 939) (by decide +kernel), List.mem_of_getElem? (i := 940) (by decide +kernel)⟩
theorem lw_p27 : lw_okq (⟨"FlashTrust$Paper", "isRole", "(I)Z"⟩, 15) := ⟨⟨by decide +kernel, by decide +kernel⟩, List.mem_of_getElem? (i := 175) (by decide +kernel), List.mem_of_getElem? (i := 980) (by decide +kernel), List.mem_of_getElem? (i := 981) (by decide +kernel)⟩
theorem lw_p28 : lw_okq (⟨"FlashTrust$Paper", "isImage", "(I)Z"⟩, 15) := ⟨⟨by decide +kernel, by decide +kernel⟩, List.mem_of_getElem? (i := 175) (by decide +kernel), List.mem_of_getElem? (i := 984) (by decide +kernel), List.mem_of_getElem? (i := 985) (by decide +kernel)⟩
theorem lw_p29 : lw_okq (⟨"FlashTrustModel", "slotDigest", "(II)J"⟩, 75) := ⟨⟨by decide +kernel, by decide +kernel⟩, List.mem_of_getElem? (i := 1000) (by decide +kernel), List.mem_of_getElem? (i := 1009) (by decide +kernel), List.mem_of_getElem? (i := 1010) (by decide +kernel)⟩
theorem lw_p30 : lw_okq (⟨"FlashTrustModel", "digestBegin", "()V"⟩, 75) := ⟨⟨by decide +kernel, by decide +kernel⟩, List.mem_of_getElem? (i := 1000) (by decide +kernel), List.mem_of_getElem? (i := 1013) (by decide +kernel), List.mem_of_getElem? (i := 1014) (by decide +kernel)⟩
theorem lw_p31 : lw_okq (⟨"FlashTrustModel", "digestByte", "(I)V"⟩, 75) := ⟨⟨by decide +kernel, by decide +kernel⟩, List.mem_of_getElem? (i := 1000) (by decide +kernel), List.mem_of_getElem? (i := 1018) (by decide +kernel), List.mem_of_getElem? (i := 1019) (by decide +kernel)⟩
def lw_privs_2 : List (MethodName × Nat) := [(⟨"FlashTrust$Update", "fail", "(I)I"⟩, 10), (⟨"FlashTrust$Update", "hasRole", "(LFlashTrust$Paper;LFlashTrust$Paper;I)Z"⟩, 10), (⟨"FlashTrust$Flash", "powerHolds", "()Z"⟩, 6), (⟨"FlashTrust$Update", "finishProgram", "()I"⟩, 10), (⟨"FlashTrust$States", "nextBlank", "(I)I"⟩, 14), (⟨"FlashTrust$Update", "judge", "(LFlashTrust$Paper;I)I"⟩, 10), (⟨"FlashTrust$Update", "isTrustedAsTold", "(I)Z"⟩, 10), (⟨"FlashTrust$Update", "chooseImage", "()I"⟩, 10), (⟨"FlashTrust", "unlessDown", "(I)I"⟩, 7), (⟨"FlashTrust$Loader", "startTrial", "()I"⟩, 4), (⟨"FlashTrust$Loader", "startConfirmed", "()I"⟩, 4), (⟨"FlashTrust$Paper", "isRole", "(I)Z"⟩, 15), (⟨"FlashTrust$Paper", "isImage", "(I)Z"⟩, 15), (⟨"FlashTrustModel", "slotDigest", "(II)J"⟩, 75), (⟨"FlashTrustModel", "digestBegin", "()V"⟩, 75), (⟨"FlashTrustModel", "digestByte", "(I)V"⟩, 75)]
theorem lw_r2 : ∀ q ∈ lw_privs_2, lw_okq q := List.forall_mem_cons.mpr ⟨lw_p16, List.forall_mem_cons.mpr ⟨lw_p17, List.forall_mem_cons.mpr ⟨lw_p18, List.forall_mem_cons.mpr ⟨lw_p19, List.forall_mem_cons.mpr ⟨lw_p20, List.forall_mem_cons.mpr ⟨lw_p21, List.forall_mem_cons.mpr ⟨lw_p22, List.forall_mem_cons.mpr ⟨lw_p23, List.forall_mem_cons.mpr ⟨lw_p24, List.forall_mem_cons.mpr ⟨lw_p25, List.forall_mem_cons.mpr ⟨lw_p26, List.forall_mem_cons.mpr ⟨lw_p27, List.forall_mem_cons.mpr ⟨lw_p28, List.forall_mem_cons.mpr ⟨lw_p29, List.forall_mem_cons.mpr ⟨lw_p30, List.forall_mem_cons.mpr ⟨lw_p31, fun _ h => absurd h List.not_mem_nil⟩⟩⟩⟩⟩⟩⟩⟩⟩⟩⟩⟩⟩⟩⟩⟩
theorem lw_p32 : lw_okq (⟨"FlashTrustModel", "layState", "()V"⟩, 75) := ⟨⟨by decide +kernel, by decide +kernel⟩, List.mem_of_getElem? (i := 1000) (by decide +kernel), List.mem_of_getElem? (i := 1024) (by decide +kernel), List.mem_of_getElem? (i := 1025) (by decide +kernel)⟩
theorem lw_p33 : lw_okq (⟨"FlashTrustModel", "isState", "(I)Z"⟩, 75) := ⟨⟨by decide +kernel, by decide +kernel⟩, List.mem_of_getElem? (i := 1000) (by decide +kernel), List.mem_of_getElem? (i := 1028) (by decide +kernel), List.mem_of_getElem? (i := 1029) (by decide +kernel)⟩
theorem lw_p34 : lw_okq (⟨"FlashTrustModel", "wide", "(II)I"⟩, 75) := ⟨⟨by decide +kernel, by decide +kernel⟩, List.mem_of_getElem? (i := 1000) (by decide +kernel), List.mem_of_getElem? (i := 1032) (by decide +kernel), List.mem_of_getElem? (i := 1033) (by decide +kernel)⟩
theorem lw_p35 : lw_okq (⟨"FlashTrustModel", "checkOf", "(II)I"⟩, 75) := ⟨⟨by decide +kernel, by decide +kernel⟩, List.mem_of_getElem? (i := 1000) (by decide +kernel), List.mem_of_getElem? (i := 1036) (by decide +kernel), List.mem_of_getElem? (i := 1037) (by decide +kernel)⟩
theorem lw_p36 : lw_okq (⟨"FlashTrustModel", "checkNow", "()I"⟩, 75) := ⟨⟨by decide +kernel, by decide +kernel⟩, List.mem_of_getElem? (i := 1000) (by decide +kernel), List.mem_of_getElem? (i := 1040) (by decide +kernel), List.mem_of_getElem? (i := 1041) (by decide +kernel)⟩
theorem lw_p37 : lw_okq (⟨"FlashTrustModel", "six", "(I)J"⟩, 75) := ⟨⟨by decide +kernel, by decide +kernel⟩, List.mem_of_getElem? (i := 1000) (by decide +kernel), List.mem_of_getElem? (i := 1044) (by decide +kernel), List.mem_of_getElem? (i := 1045) (by decide +kernel)⟩
theorem lw_p38 : lw_okq (⟨"FlashTrustModel", "layPage", "(I)V"⟩, 75) := ⟨⟨by decide +kernel, by decide +kernel⟩, List.mem_of_getElem? (i := 1000) (by decide +kernel), List.mem_of_getElem? (i := 1048) (by decide +kernel), List.mem_of_getElem? (i := 1049) (by decide +kernel)⟩
theorem lw_p39 : lw_okq (⟨"FlashTrustModel", "put", "(JI)V"⟩, 75) := ⟨⟨by decide +kernel, by decide +kernel⟩, List.mem_of_getElem? (i := 1000) (by decide +kernel), List.mem_of_getElem? (i := 1052) (by decide +kernel), List.mem_of_getElem? (i := 1053) (by decide +kernel)⟩
theorem lw_p40 : lw_okq (⟨"FlashTrustModel", "takePiece", "(I)I"⟩, 75) := ⟨⟨by decide +kernel, by decide +kernel⟩, List.mem_of_getElem? (i := 1000) (by decide +kernel), List.mem_of_getElem? (i := 1314) (by decide +kernel), List.mem_of_getElem? (i := 1315) (by decide +kernel)⟩
theorem lw_p41 : lw_okq (⟨"FlashTrustModel", "fail", "(I)I"⟩, 75) := ⟨⟨by decide +kernel, by decide +kernel⟩, List.mem_of_getElem? (i := 1000) (by decide +kernel), List.mem_of_getElem? (i := 1318) (by decide +kernel), List.mem_of_getElem? (i := 1319) (by decide +kernel)⟩
theorem lw_p42 : lw_okq (⟨"FlashTrustModel", "writePage", "(I)V"⟩, 75) := ⟨⟨by decide +kernel, by decide +kernel⟩, List.mem_of_getElem? (i := 1000) (by decide +kernel), List.mem_of_getElem? (i := 1322) (by decide +kernel), List.mem_of_getElem? (i := 1323) (by decide +kernel)⟩
theorem lw_p43 : lw_okq (⟨"FlashTrustModel", "hasPower", "()Z"⟩, 75) := ⟨⟨by decide +kernel, by decide +kernel⟩, List.mem_of_getElem? (i := 1000) (by decide +kernel), List.mem_of_getElem? (i := 1326) (by decide +kernel), List.mem_of_getElem? (i := 1327) (by decide +kernel)⟩
theorem lw_p44 : lw_okq (⟨"FlashTrustModel", "writeState", "(I)V"⟩, 75) := ⟨⟨by decide +kernel, by decide +kernel⟩, List.mem_of_getElem? (i := 1000) (by decide +kernel), List.mem_of_getElem? (i := 1330) (by decide +kernel), List.mem_of_getElem? (i := 1331) (by decide +kernel)⟩
theorem lw_p45 : lw_okq (⟨"FlashTrustModel", "isErased", "(I)Z"⟩, 75) := ⟨⟨by decide +kernel, by decide +kernel⟩, List.mem_of_getElem? (i := 1000) (by decide +kernel), List.mem_of_getElem? (i := 1334) (by decide +kernel), List.mem_of_getElem? (i := 1335) (by decide +kernel)⟩
theorem lw_p46 : lw_okq (⟨"FlashTrustModel", "erase", "(I)V"⟩, 75) := ⟨⟨by decide +kernel, by decide +kernel⟩, List.mem_of_getElem? (i := 1000) (by decide +kernel), List.mem_of_getElem? (i := 1338) (by decide +kernel), List.mem_of_getElem? (i := 1339) (by decide +kernel)⟩
theorem lw_p47 : lw_okq (⟨"FlashTrustModel", "readDoc", "()Z"⟩, 75) := ⟨⟨by decide +kernel, by decide +kernel⟩, List.mem_of_getElem? (i := 1000) (by decide +kernel), List.mem_of_getElem? (i := 1342) (by decide +kernel), List.mem_of_getElem? (i := 1343) (by decide +kernel)⟩
def lw_privs_3 : List (MethodName × Nat) := [(⟨"FlashTrustModel", "layState", "()V"⟩, 75), (⟨"FlashTrustModel", "isState", "(I)Z"⟩, 75), (⟨"FlashTrustModel", "wide", "(II)I"⟩, 75), (⟨"FlashTrustModel", "checkOf", "(II)I"⟩, 75), (⟨"FlashTrustModel", "checkNow", "()I"⟩, 75), (⟨"FlashTrustModel", "six", "(I)J"⟩, 75), (⟨"FlashTrustModel", "layPage", "(I)V"⟩, 75), (⟨"FlashTrustModel", "put", "(JI)V"⟩, 75), (⟨"FlashTrustModel", "takePiece", "(I)I"⟩, 75), (⟨"FlashTrustModel", "fail", "(I)I"⟩, 75), (⟨"FlashTrustModel", "writePage", "(I)V"⟩, 75), (⟨"FlashTrustModel", "hasPower", "()Z"⟩, 75), (⟨"FlashTrustModel", "writeState", "(I)V"⟩, 75), (⟨"FlashTrustModel", "isErased", "(I)Z"⟩, 75), (⟨"FlashTrustModel", "erase", "(I)V"⟩, 75), (⟨"FlashTrustModel", "readDoc", "()Z"⟩, 75)]
theorem lw_r3 : ∀ q ∈ lw_privs_3, lw_okq q := List.forall_mem_cons.mpr ⟨lw_p32, List.forall_mem_cons.mpr ⟨lw_p33, List.forall_mem_cons.mpr ⟨lw_p34, List.forall_mem_cons.mpr ⟨lw_p35, List.forall_mem_cons.mpr ⟨lw_p36, List.forall_mem_cons.mpr ⟨lw_p37, List.forall_mem_cons.mpr ⟨lw_p38, List.forall_mem_cons.mpr ⟨lw_p39, List.forall_mem_cons.mpr ⟨lw_p40, List.forall_mem_cons.mpr ⟨lw_p41, List.forall_mem_cons.mpr ⟨lw_p42, List.forall_mem_cons.mpr ⟨lw_p43, List.forall_mem_cons.mpr ⟨lw_p44, List.forall_mem_cons.mpr ⟨lw_p45, List.forall_mem_cons.mpr ⟨lw_p46, List.forall_mem_cons.mpr ⟨lw_p47, fun _ h => absurd h List.not_mem_nil⟩⟩⟩⟩⟩⟩⟩⟩⟩⟩⟩⟩⟩⟩⟩⟩
theorem lw_p48 : lw_okq (⟨"FlashTrustModel", "docWide", "(II)I"⟩, 75) := ⟨⟨by decide +kernel, by decide +kernel⟩, List.mem_of_getElem? (i := 1000) (by decide +kernel), List.mem_of_getElem? (i := 1346) (by decide +kernel), List.mem_of_getElem? (i := 1347) (by decide +kernel)⟩
theorem lw_p49 : lw_okq (⟨"FlashTrustModel", "keysAt", "(II)I"⟩, 75) := ⟨⟨by decide +kernel, by decide +kernel⟩, List.mem_of_getElem? (i := 1000) (by decide +kernel), List.mem_of_getElem? (i := 1350) (by decide +kernel), List.mem_of_getElem? (i := 1351) (by decide +kernel)⟩
theorem lw_p50 : lw_okq (⟨"FlashTrustModel", "readRoles", "()Z"⟩, 75) := ⟨⟨by decide +kernel, by decide +kernel⟩, List.mem_of_getElem? (i := 1000) (by decide +kernel), List.mem_of_getElem? (i := 1355) (by decide +kernel), List.mem_of_getElem? (i := 1356) (by decide +kernel)⟩
theorem lw_p51 : lw_okq (⟨"FlashTrustModel", "readImages", "()Z"⟩, 75) := ⟨⟨by decide +kernel, by decide +kernel⟩, List.mem_of_getElem? (i := 1000) (by decide +kernel), List.mem_of_getElem? (i := 1359) (by decide +kernel), List.mem_of_getElem? (i := 1360) (by decide +kernel)⟩
theorem lw_p52 : lw_okq (⟨"FlashTrustModel", "docLong", "(I)J"⟩, 75) := ⟨⟨by decide +kernel, by decide +kernel⟩, List.mem_of_getElem? (i := 1000) (by decide +kernel), List.mem_of_getElem? (i := 1363) (by decide +kernel), List.mem_of_getElem? (i := 1364) (by decide +kernel)⟩
theorem lw_p53 : lw_okq (⟨"FlashTrustModel", "takeRoot", "()I"⟩, 75) := ⟨⟨by decide +kernel, by decide +kernel⟩, List.mem_of_getElem? (i := 1000) (by decide +kernel), List.mem_of_getElem? (i := 1367) (by decide +kernel), List.mem_of_getElem? (i := 1368) (by decide +kernel)⟩
theorem lw_p54 : lw_okq (⟨"FlashTrustModel", "takeTrusted", "(I)Z"⟩, 75) := ⟨⟨by decide +kernel, by decide +kernel⟩, List.mem_of_getElem? (i := 1000) (by decide +kernel), List.mem_of_getElem? (i := 1371) (by decide +kernel), List.mem_of_getElem? (i := 1372) (by decide +kernel)⟩
theorem lw_p55 : lw_okq (⟨"FlashTrustModel", "findRecord", "(I)V"⟩, 75) := ⟨⟨by decide +kernel, by decide +kernel⟩, List.mem_of_getElem? (i := 1000) (by decide +kernel), List.mem_of_getElem? (i := 1375) (by decide +kernel), List.mem_of_getElem? (i := 1376) (by decide +kernel)⟩
theorem lw_p56 : lw_okq (⟨"FlashTrustModel", "isRecord", "(III)Z"⟩, 75) := ⟨⟨by decide +kernel, by decide +kernel⟩, List.mem_of_getElem? (i := 1000) (by decide +kernel), List.mem_of_getElem? (i := 1379) (by decide +kernel), List.mem_of_getElem? (i := 1380) (by decide +kernel)⟩
theorem lw_p57 : lw_okq (⟨"FlashTrustModel", "takeCame", "()V"⟩, 75) := ⟨⟨by decide +kernel, by decide +kernel⟩, List.mem_of_getElem? (i := 1000) (by decide +kernel), List.mem_of_getElem? (i := 1384) (by decide +kernel), List.mem_of_getElem? (i := 1385) (by decide +kernel)⟩
theorem lw_p58 : lw_okq (⟨"FlashTrustModel", "has", "(II)Z"⟩, 75) := ⟨⟨by decide +kernel, by decide +kernel⟩, List.mem_of_getElem? (i := 1000) (by decide +kernel), List.mem_of_getElem? (i := 1388) (by decide +kernel), List.mem_of_getElem? (i := 1389) (by decide +kernel)⟩
theorem lw_p59 : lw_okq (⟨"FlashTrustModel", "bodyDigest", "()J"⟩, 75) := ⟨⟨by decide +kernel, by decide +kernel⟩, List.mem_of_getElem? (i := 1000) (by decide +kernel), List.mem_of_getElem? (i := 1392) (by decide +kernel), List.mem_of_getElem? (i := 1393) (by decide +kernel)⟩
theorem lw_p60 : lw_okq (⟨"FlashTrustModel", "hasSigned", "(IJ)Z"⟩, 75) := ⟨⟨by decide +kernel, by decide +kernel⟩, List.mem_of_getElem? (i := 1000) (by decide +kernel), List.mem_of_getElem? (i := 1396) (by decide +kernel), List.mem_of_getElem? (i := 1397) (by decide +kernel)⟩
theorem lw_p61 : lw_okq (⟨"FlashTrustModel", "dropTrusted", "(I)V"⟩, 75) := ⟨⟨by decide +kernel, by decide +kernel⟩, List.mem_of_getElem? (i := 1000) (by decide +kernel), List.mem_of_getElem? (i := 1400) (by decide +kernel), List.mem_of_getElem? (i := 1401) (by decide +kernel)⟩
theorem lw_p62 : lw_okq (⟨"FlashTrustModel", "keepRecord", "(II)V"⟩, 75) := ⟨⟨by decide +kernel, by decide +kernel⟩, List.mem_of_getElem? (i := 1000) (by decide +kernel), List.mem_of_getElem? (i := 1404) (by decide +kernel), List.mem_of_getElem? (i := 1405) (by decide +kernel)⟩
theorem lw_p63 : lw_okq (⟨"FlashTrustModel", "keepDoc", "()V"⟩, 75) := ⟨⟨by decide +kernel, by decide +kernel⟩, List.mem_of_getElem? (i := 1000) (by decide +kernel), List.mem_of_getElem? (i := 1408) (by decide +kernel), List.mem_of_getElem? (i := 1409) (by decide +kernel)⟩
def lw_privs_4 : List (MethodName × Nat) := [(⟨"FlashTrustModel", "docWide", "(II)I"⟩, 75), (⟨"FlashTrustModel", "keysAt", "(II)I"⟩, 75), (⟨"FlashTrustModel", "readRoles", "()Z"⟩, 75), (⟨"FlashTrustModel", "readImages", "()Z"⟩, 75), (⟨"FlashTrustModel", "docLong", "(I)J"⟩, 75), (⟨"FlashTrustModel", "takeRoot", "()I"⟩, 75), (⟨"FlashTrustModel", "takeTrusted", "(I)Z"⟩, 75), (⟨"FlashTrustModel", "findRecord", "(I)V"⟩, 75), (⟨"FlashTrustModel", "isRecord", "(III)Z"⟩, 75), (⟨"FlashTrustModel", "takeCame", "()V"⟩, 75), (⟨"FlashTrustModel", "has", "(II)Z"⟩, 75), (⟨"FlashTrustModel", "bodyDigest", "()J"⟩, 75), (⟨"FlashTrustModel", "hasSigned", "(IJ)Z"⟩, 75), (⟨"FlashTrustModel", "dropTrusted", "(I)V"⟩, 75), (⟨"FlashTrustModel", "keepRecord", "(II)V"⟩, 75), (⟨"FlashTrustModel", "keepDoc", "()V"⟩, 75)]
theorem lw_r4 : ∀ q ∈ lw_privs_4, lw_okq q := List.forall_mem_cons.mpr ⟨lw_p48, List.forall_mem_cons.mpr ⟨lw_p49, List.forall_mem_cons.mpr ⟨lw_p50, List.forall_mem_cons.mpr ⟨lw_p51, List.forall_mem_cons.mpr ⟨lw_p52, List.forall_mem_cons.mpr ⟨lw_p53, List.forall_mem_cons.mpr ⟨lw_p54, List.forall_mem_cons.mpr ⟨lw_p55, List.forall_mem_cons.mpr ⟨lw_p56, List.forall_mem_cons.mpr ⟨lw_p57, List.forall_mem_cons.mpr ⟨lw_p58, List.forall_mem_cons.mpr ⟨lw_p59, List.forall_mem_cons.mpr ⟨lw_p60, List.forall_mem_cons.mpr ⟨lw_p61, List.forall_mem_cons.mpr ⟨lw_p62, List.forall_mem_cons.mpr ⟨lw_p63, fun _ h => absurd h List.not_mem_nil⟩⟩⟩⟩⟩⟩⟩⟩⟩⟩⟩⟩⟩⟩⟩⟩
theorem lw_p64 : lw_okq (⟨"FlashTrustModel", "takeTime", "()I"⟩, 75) := ⟨⟨by decide +kernel, by decide +kernel⟩, List.mem_of_getElem? (i := 1000) (by decide +kernel), List.mem_of_getElem? (i := 1412) (by decide +kernel), List.mem_of_getElem? (i := 1413) (by decide +kernel)⟩
theorem lw_p65 : lw_okq (⟨"FlashTrustModel", "takeRole", "(I)V"⟩, 75) := ⟨⟨by decide +kernel, by decide +kernel⟩, List.mem_of_getElem? (i := 1000) (by decide +kernel), List.mem_of_getElem? (i := 1416) (by decide +kernel), List.mem_of_getElem? (i := 1417) (by decide +kernel)⟩
theorem lw_p66 : lw_okq (⟨"FlashTrustModel", "takeWas", "(I)V"⟩, 75) := ⟨⟨by decide +kernel, by decide +kernel⟩, List.mem_of_getElem? (i := 1000) (by decide +kernel), List.mem_of_getElem? (i := 1420) (by decide +kernel), List.mem_of_getElem? (i := 1421) (by decide +kernel)⟩
theorem lw_p67 : lw_okq (⟨"FlashTrustModel", "keepOther", "(I)V"⟩, 75) := ⟨⟨by decide +kernel, by decide +kernel⟩, List.mem_of_getElem? (i := 1000) (by decide +kernel), List.mem_of_getElem? (i := 1424) (by decide +kernel), List.mem_of_getElem? (i := 1425) (by decide +kernel)⟩
theorem lw_p68 : lw_okq (⟨"FlashTrustModel", "goToList", "()I"⟩, 75) := ⟨⟨by decide +kernel, by decide +kernel⟩, List.mem_of_getElem? (i := 1000) (by decide +kernel), List.mem_of_getElem? (i := 1428) (by decide +kernel), List.mem_of_getElem? (i := 1429) (by decide +kernel)⟩
theorem lw_p69 : lw_okq (⟨"FlashTrustModel", "saveCame", "()V"⟩, 75) := ⟨⟨by decide +kernel, by decide +kernel⟩, List.mem_of_getElem? (i := 1000) (by decide +kernel), List.mem_of_getElem? (i := 1432) (by decide +kernel), List.mem_of_getElem? (i := 1433) (by decide +kernel)⟩
theorem lw_p70 : lw_okq (⟨"FlashTrustModel", "takeList", "()I"⟩, 75) := ⟨⟨by decide +kernel, by decide +kernel⟩, List.mem_of_getElem? (i := 1000) (by decide +kernel), List.mem_of_getElem? (i := 1436) (by decide +kernel), List.mem_of_getElem? (i := 1437) (by decide +kernel)⟩
theorem lw_p71 : lw_okq (⟨"FlashTrustModel", "goToImages", "()I"⟩, 75) := ⟨⟨by decide +kernel, by decide +kernel⟩, List.mem_of_getElem? (i := 1000) (by decide +kernel), List.mem_of_getElem? (i := 1440) (by decide +kernel), List.mem_of_getElem? (i := 1441) (by decide +kernel)⟩
theorem lw_p72 : lw_okq (⟨"FlashTrustModel", "takeImages", "()I"⟩, 75) := ⟨⟨by decide +kernel, by decide +kernel⟩, List.mem_of_getElem? (i := 1000) (by decide +kernel), List.mem_of_getElem? (i := 1444) (by decide +kernel), List.mem_of_getElem? (i := 1445) (by decide +kernel)⟩
theorem lw_p73 : lw_okq (⟨"FlashTrustModel", "goToPieces", "()I"⟩, 75) := ⟨⟨by decide +kernel, by decide +kernel⟩, List.mem_of_getElem? (i := 1000) (by decide +kernel), List.mem_of_getElem? (i := 1448) (by decide +kernel), List.mem_of_getElem? (i := 1449) (by decide +kernel)⟩
theorem lw_p74 : lw_okq (⟨"FlashTrustModel", "runConfirmed", "()V"⟩, 75) := ⟨⟨by decide +kernel, by decide +kernel⟩, List.mem_of_getElem? (i := 1000) (by decide +kernel), List.mem_of_getElem? (i := 1472) (by decide +kernel), List.mem_of_getElem? (i := 1473) (by decide +kernel)⟩
theorem lw_p75 : lw_okq (⟨"FlashTrustModel", "draftPut", "(JI)V"⟩, 75) := ⟨⟨by decide +kernel, by decide +kernel⟩, List.mem_of_getElem? (i := 1000) (by decide +kernel), List.mem_of_getElem? (i := 1505) (by decide +kernel), List.mem_of_getElem? (i := 1506) (by decide +kernel)⟩
theorem lw_p76 : lw_okq (⟨"FlashTrustModel", "draftKeysOf", "(I)V"⟩, 75) := ⟨⟨by decide +kernel, by decide +kernel⟩, List.mem_of_getElem? (i := 1000) (by decide +kernel), List.mem_of_getElem? (i := 1512) (by decide +kernel), List.mem_of_getElem? (i := 1513) (by decide +kernel)⟩
theorem lw_p77 : lw_okq (⟨"FlashTrustModel", "imageByte", "(II)I"⟩, 75) := ⟨⟨by decide +kernel, by decide +kernel⟩, List.mem_of_getElem? (i := 1000) (by decide +kernel), List.mem_of_getElem? (i := 1516) (by decide +kernel), List.mem_of_getElem? (i := 1517) (by decide +kernel)⟩
theorem lw_p78 : lw_okq (⟨"FlashTrustModel", "draftDigest", "()J"⟩, 75) := ⟨⟨by decide +kernel, by decide +kernel⟩, List.mem_of_getElem? (i := 1000) (by decide +kernel), List.mem_of_getElem? (i := 1520) (by decide +kernel), List.mem_of_getElem? (i := 1521) (by decide +kernel)⟩
def lw_privs_5 : List (MethodName × Nat) := [(⟨"FlashTrustModel", "takeTime", "()I"⟩, 75), (⟨"FlashTrustModel", "takeRole", "(I)V"⟩, 75), (⟨"FlashTrustModel", "takeWas", "(I)V"⟩, 75), (⟨"FlashTrustModel", "keepOther", "(I)V"⟩, 75), (⟨"FlashTrustModel", "goToList", "()I"⟩, 75), (⟨"FlashTrustModel", "saveCame", "()V"⟩, 75), (⟨"FlashTrustModel", "takeList", "()I"⟩, 75), (⟨"FlashTrustModel", "goToImages", "()I"⟩, 75), (⟨"FlashTrustModel", "takeImages", "()I"⟩, 75), (⟨"FlashTrustModel", "goToPieces", "()I"⟩, 75), (⟨"FlashTrustModel", "runConfirmed", "()V"⟩, 75), (⟨"FlashTrustModel", "draftPut", "(JI)V"⟩, 75), (⟨"FlashTrustModel", "draftKeysOf", "(I)V"⟩, 75), (⟨"FlashTrustModel", "imageByte", "(II)I"⟩, 75), (⟨"FlashTrustModel", "draftDigest", "()J"⟩, 75)]
theorem lw_r5 : ∀ q ∈ lw_privs_5, lw_okq q := List.forall_mem_cons.mpr ⟨lw_p64, List.forall_mem_cons.mpr ⟨lw_p65, List.forall_mem_cons.mpr ⟨lw_p66, List.forall_mem_cons.mpr ⟨lw_p67, List.forall_mem_cons.mpr ⟨lw_p68, List.forall_mem_cons.mpr ⟨lw_p69, List.forall_mem_cons.mpr ⟨lw_p70, List.forall_mem_cons.mpr ⟨lw_p71, List.forall_mem_cons.mpr ⟨lw_p72, List.forall_mem_cons.mpr ⟨lw_p73, List.forall_mem_cons.mpr ⟨lw_p74, List.forall_mem_cons.mpr ⟨lw_p75, List.forall_mem_cons.mpr ⟨lw_p76, List.forall_mem_cons.mpr ⟨lw_p77, List.forall_mem_cons.mpr ⟨lw_p78, fun _ h => absurd h List.not_mem_nil⟩⟩⟩⟩⟩⟩⟩⟩⟩⟩⟩⟩⟩⟩⟩
def lw_privs : List (MethodName × Nat) := lw_privs_1 ++ (lw_privs_2 ++ (lw_privs_3 ++ (lw_privs_4 ++ (lw_privs_5))))
def lw_tbl : List Cond := k2_sels lw_privs ++ tables_1
theorem lw_privs_ok : ∀ q ∈ lw_privs, lw_okq q := by
  show ∀ q ∈ lw_privs_1 ++ (lw_privs_2 ++ (lw_privs_3 ++ (lw_privs_4 ++ (lw_privs_5)))), lw_okq q
  exact List.forall_mem_append.mpr ⟨lw_r1, List.forall_mem_append.mpr ⟨lw_r2, List.forall_mem_append.mpr ⟨lw_r3, List.forall_mem_append.mpr ⟨lw_r4, lw_r5⟩⟩⟩⟩
-- ===== end of PART A; then your names; then what follows =====
end
section
def RX0 : String := "FlashTrust$Entry"
def TX0 : u_T := fun k => match k with
  | 0 => ("FlashTrust$Entry", "flash", "LFlashTrust$Flash;", true)
  | 1 => ("FlashTrust$Entry", "role", "I", true)
  | 2 => ("FlashTrust$Entry", "sector", "I", true)
  | 3 => ("FlashTrust$Entry", "paper", "LFlashTrust$Paper;", true)
  | 4 => ("FlashTrust$Entry", "number", "I", false)
  | _ => ("FlashTrust$Entry", "holds", "Z", false)
def tyX0 : Nat → FieldType := fun k => match k with
  | 0 => .object "FlashTrust$Flash"
  | 1 => .int
  | 2 => .int
  | 3 => .object "FlashTrust$Paper"
  | 4 => .int
  | _ => .boolean
theorem nmX0 : ∀ a, a < 6 → ∀ b, b < 6 → a ≠ b → (TX0 a).2.1 ≠ (TX0 b).2.1 := by decide +kernel
theorem tyX0_ok : ∀ k, k < 6 → parseFieldDescriptor (TX0 k).2.2.1 = some (tyX0 k) := by decide +kernel
abbrev cX0_init : ByteArray := prog_2_method_1_code
def yX0_init : MethodName := ⟨RX0, "<init>", "(LFlashTrust$Flash;II)V"⟩
abbrev cX0_look : ByteArray := prog_2_method_2_code
def yX0_look : MethodName := ⟨RX0, "look", "()V"⟩
def RX1 : String := "FlashTrust$Flash"
def TX1 : u_T := fun k => match k with
  | 0 => ("FlashTrust$Flash", "cells", "LFlashTrust$Row;", true)
  | 1 => ("FlashTrust$Flash", "writings", "I", false)
  | 2 => ("FlashTrust$Flash", "erasings", "I", false)
  | 3 => ("FlashTrust$Flash", "left", "I", false)
  | 4 => ("FlashTrust$Flash", "mask", "I", false)
  | _ => ("FlashTrust$Flash", "down", "Z", false)
def tyX1 : Nat → FieldType := fun k => match k with
  | 0 => .object "FlashTrust$Row"
  | 1 => .int
  | 2 => .int
  | 3 => .int
  | 4 => .int
  | _ => .boolean
theorem nmX1 : ∀ a, a < 6 → ∀ b, b < 6 → a ≠ b → (TX1 a).2.1 ≠ (TX1 b).2.1 := by decide +kernel
theorem tyX1_ok : ∀ k, k < 6 → parseFieldDescriptor (TX1 k).2.2.1 = some (tyX1 k) := by decide +kernel
abbrev cX1_init : ByteArray := prog_3_method_1_code
def yX1_init : MethodName := ⟨RX1, "<init>", "(I)V"⟩
abbrev cX1_isDown : ByteArray := prog_3_method_2_code
def yX1_isDown : MethodName := ⟨RX1, "isDown", "()Z"⟩
abbrev cX1_switchOn : ByteArray := prog_3_method_3_code
def yX1_switchOn : MethodName := ⟨RX1, "switchOn", "()V"⟩
abbrev cX1_tellCut : ByteArray := prog_3_method_4_code
def yX1_tellCut : MethodName := ⟨RX1, "tellCut", "(II)V"⟩
abbrev cX1_slotStart : ByteArray := prog_3_method_5_code
def yX1_slotStart : MethodName := ⟨RX1, "slotStart", "(I)I"⟩
abbrev cX1_write : ByteArray := prog_3_method_6_code
def yX1_write : MethodName := ⟨RX1, "write", "(ILFlashTrust$Row;I)V"⟩
abbrev cX1_burn : ByteArray := prog_3_method_7_code
def yX1_burn : MethodName := ⟨RX1, "burn", "(ILFlashTrust$Row;I)V"⟩
abbrev cX1_erase : ByteArray := prog_3_method_8_code
def yX1_erase : MethodName := ⟨RX1, "erase", "(I)V"⟩
abbrev cX1_powerHolds : ByteArray := prog_3_method_9_code
def yX1_powerHolds : MethodName := ⟨RX1, "powerHolds", "()Z"⟩
abbrev cX1_writeAll : ByteArray := prog_3_method_10_code
def yX1_writeAll : MethodName := ⟨RX1, "writeAll", "(ILFlashTrust$Row;)V"⟩
abbrev cX1_eraseSlot : ByteArray := prog_3_method_11_code
def yX1_eraseSlot : MethodName := ⟨RX1, "eraseSlot", "(I)V"⟩
abbrev cX1_isBlank : ByteArray := prog_3_method_12_code
def yX1_isBlank : MethodName := ⟨RX1, "isBlank", "(I)Z"⟩
abbrev cX1_programHash : ByteArray := prog_3_method_13_code
def yX1_programHash : MethodName := ⟨RX1, "programHash", "(II)J"⟩
abbrev cX1_lowest : ByteArray := prog_3_method_14_code
def yX1_lowest : MethodName := ⟨RX1, "lowest", "(J)J"⟩
abbrev cX1_lastWrittenPiece : ByteArray := prog_3_method_15_code
def yX1_lastWrittenPiece : MethodName := ⟨RX1, "lastWrittenPiece", "(II)I"⟩
def RX2 : String := "FlashTrust$Loader"
def TX2 : u_T := fun k => match k with
  | 0 => ("FlashTrust$Loader", "flash", "LFlashTrust$Flash;", true)
  | 1 => ("FlashTrust$Loader", "states", "LFlashTrust$States;", true)
  | 2 => ("FlashTrust$Loader", "running", "I", false)
  | _ => ("FlashTrust$Loader", "onTrial", "Z", false)
def tyX2 : Nat → FieldType := fun k => match k with
  | 0 => .object "FlashTrust$Flash"
  | 1 => .object "FlashTrust$States"
  | 2 => .int
  | _ => .boolean
theorem nmX2 : ∀ a, a < 4 → ∀ b, b < 4 → a ≠ b → (TX2 a).2.1 ≠ (TX2 b).2.1 := by decide +kernel
theorem tyX2_ok : ∀ k, k < 4 → parseFieldDescriptor (TX2 k).2.2.1 = some (tyX2 k) := by decide +kernel
abbrev cX2_init : ByteArray := prog_4_method_1_code
def yX2_init : MethodName := ⟨RX2, "<init>", "(LFlashTrust$Flash;LFlashTrust$States;)V"⟩
abbrev cX2_isSettled : ByteArray := prog_4_method_2_code
def yX2_isSettled : MethodName := ⟨RX2, "isSettled", "()Z"⟩
abbrev cX2_halt : ByteArray := prog_4_method_3_code
def yX2_halt : MethodName := ⟨RX2, "halt", "()V"⟩
abbrev cX2_start : ByteArray := prog_4_method_4_code
def yX2_start : MethodName := ⟨RX2, "start", "()I"⟩
abbrev cX2_startTrial : ByteArray := prog_4_method_5_code
def yX2_startTrial : MethodName := ⟨RX2, "startTrial", "()I"⟩
abbrev cX2_startConfirmed : ByteArray := prog_4_method_6_code
def yX2_startConfirmed : MethodName := ⟨RX2, "startConfirmed", "()I"⟩
abbrev cX2_confirm : ByteArray := prog_4_method_7_code
def yX2_confirm : MethodName := ⟨RX2, "confirm", "()I"⟩
abbrev cX2_reject : ByteArray := prog_4_method_8_code
def yX2_reject : MethodName := ⟨RX2, "reject", "()I"⟩
def RX3 : String := "FlashTrust$Maker"
def TX3 : u_T := fun k => match k with
  | 0 => ("FlashTrust$Maker", "signatures", "LFlashTrust$Signatures;", true)
  | 1 => ("FlashTrust$Maker", "roleKeys", "[I", true)
  | 2 => ("FlashTrust$Maker", "thresholds", "[I", true)
  | 3 => ("FlashTrust$Maker", "images", "I", false)
  | 4 => ("FlashTrust$Maker", "versions", "[I", true)
  | 5 => ("FlashTrust$Maker", "lengths", "[I", true)
  | 6 => ("FlashTrust$Maker", "seeds", "[I", true)
  | 7 => ("FlashTrust$Maker", "hashes", "[J", true)
  | 8 => ("FlashTrust$Maker", "program", "LFlashTrust$Row;", true)
  | 9 => ("FlashTrust$Maker", "body", "LFlashTrust$Row;", true)
  | 10 => ("FlashTrust$Maker", "draftRole", "I", false)
  | 11 => ("FlashTrust$Maker", "draftKeys", "I", false)
  | 12 => ("FlashTrust$Maker", "lastVersions", "[I", true)
  | _ => ("FlashTrust$Maker", "lastHashes", "[J", true)
def tyX3 : Nat → FieldType := fun k => match k with
  | 0 => .object "FlashTrust$Signatures"
  | 1 => .array .int
  | 2 => .array .int
  | 3 => .int
  | 4 => .array .int
  | 5 => .array .int
  | 6 => .array .int
  | 7 => .array .long
  | 8 => .object "FlashTrust$Row"
  | 9 => .object "FlashTrust$Row"
  | 10 => .int
  | 11 => .int
  | 12 => .array .int
  | _ => .array .long
theorem nmX3 : ∀ a, a < 14 → ∀ b, b < 14 → a ≠ b → (TX3 a).2.1 ≠ (TX3 b).2.1 := by decide +kernel
theorem tyX3_ok : ∀ k, k < 14 → parseFieldDescriptor (TX3 k).2.2.1 = some (tyX3 k) := by decide +kernel
abbrev cX3_init : ByteArray := prog_5_method_1_code
def yX3_init : MethodName := ⟨RX3, "<init>", "(LFlashTrust$Signatures;)V"⟩
abbrev cX3_planRole : ByteArray := prog_5_method_2_code
def yX3_planRole : MethodName := ⟨RX3, "planRole", "(III)I"⟩
abbrev cX3_addImage : ByteArray := prog_5_method_3_code
def yX3_addImage : MethodName := ⟨RX3, "addImage", "(III)I"⟩
abbrev cX3_addProgram : ByteArray := prog_5_method_4_code
def yX3_addProgram : MethodName := ⟨RX3, "addProgram", "(LFlashTrust$Row;III)V"⟩
abbrev cX3_dropImages : ByteArray := prog_5_method_5_code
def yX3_dropImages : MethodName := ⟨RX3, "dropImages", "()I"⟩
abbrev cX3_compose : ByteArray := prog_5_method_6_code
def yX3_compose : MethodName := ⟨RX3, "compose", "(III)I"⟩
abbrev cX3_addRoles : ByteArray := prog_5_method_7_code
def yX3_addRoles : MethodName := ⟨RX3, "addRoles", "()V"⟩
abbrev cX3_addImages : ByteArray := prog_5_method_8_code
def yX3_addImages : MethodName := ⟨RX3, "addImages", "()V"⟩
abbrev cX3_addKey : ByteArray := prog_5_method_9_code
def yX3_addKey : MethodName := ⟨RX3, "addKey", "(I)I"⟩
abbrev cX3_copyDraft : ByteArray := prog_5_method_10_code
def yX3_copyDraft : MethodName := ⟨RX3, "copyDraft", "(LFlashTrust$Row;)I"⟩
abbrev cX3_copyPiece : ByteArray := prog_5_method_11_code
def yX3_copyPiece : MethodName := ⟨RX3, "copyPiece", "(IILFlashTrust$Row;)I"⟩
def RX4 : String := "FlashTrust$Paper"
def TX4 : u_T := fun k => match k with
  | 0 => ("FlashTrust$Paper", "bytes", "LFlashTrust$Row;", true)
  | 1 => ("FlashTrust$Paper", "role", "I", false)
  | 2 => ("FlashTrust$Paper", "version", "I", false)
  | 3 => ("FlashTrust$Paper", "end", "J", false)
  | 4 => ("FlashTrust$Paper", "keys", "I", false)
  | 5 => ("FlashTrust$Paper", "bodyHash", "J", false)
  | 6 => ("FlashTrust$Paper", "bodyLength", "I", false)
  | 7 => ("FlashTrust$Paper", "roleKeys", "[I", true)
  | 8 => ("FlashTrust$Paper", "thresholds", "[I", true)
  | 9 => ("FlashTrust$Paper", "toldVersion", "I", false)
  | 10 => ("FlashTrust$Paper", "toldHash", "J", false)
  | 11 => ("FlashTrust$Paper", "images", "I", false)
  | 12 => ("FlashTrust$Paper", "imageVersions", "[I", true)
  | 13 => ("FlashTrust$Paper", "imageLengths", "[I", true)
  | _ => ("FlashTrust$Paper", "imageHashes", "[J", true)
def tyX4 : Nat → FieldType := fun k => match k with
  | 0 => .object "FlashTrust$Row"
  | 1 => .int
  | 2 => .int
  | 3 => .long
  | 4 => .int
  | 5 => .long
  | 6 => .int
  | 7 => .array .int
  | 8 => .array .int
  | 9 => .int
  | 10 => .long
  | 11 => .int
  | 12 => .array .int
  | 13 => .array .int
  | _ => .array .long
theorem nmX4 : ∀ a, a < 15 → ∀ b, b < 15 → a ≠ b → (TX4 a).2.1 ≠ (TX4 b).2.1 := by decide +kernel
theorem tyX4_ok : ∀ k, k < 15 → parseFieldDescriptor (TX4 k).2.2.1 = some (tyX4 k) := by decide +kernel
abbrev cX4_init : ByteArray := prog_6_method_1_code
def yX4_init : MethodName := ⟨RX4, "<init>", "()V"⟩
abbrev cX4_becomeFactoryRoot : ByteArray := prog_6_method_2_code
def yX4_becomeFactoryRoot : MethodName := ⟨RX4, "becomeFactoryRoot", "()V"⟩
abbrev cX4_read : ByteArray := prog_6_method_3_code
def yX4_read : MethodName := ⟨RX4, "read", "(LFlashTrust$Row;II)Z"⟩
abbrev cX4_readHead : ByteArray := prog_6_method_4_code
def yX4_readHead : MethodName := ⟨RX4, "readHead", "()Z"⟩
abbrev cX4_readKeys : ByteArray := prog_6_method_5_code
def yX4_readKeys : MethodName := ⟨RX4, "readKeys", "()Z"⟩
abbrev cX4_readRoot : ByteArray := prog_6_method_6_code
def yX4_readRoot : MethodName := ⟨RX4, "readRoot", "()Z"⟩
abbrev cX4_readTold : ByteArray := prog_6_method_7_code
def yX4_readTold : MethodName := ⟨RX4, "readTold", "()Z"⟩
abbrev cX4_readImages : ByteArray := prog_6_method_8_code
def yX4_readImages : MethodName := ⟨RX4, "readImages", "()Z"⟩
abbrev cX4_hasBodyOf : ByteArray := prog_6_method_9_code
def yX4_hasBodyOf : MethodName := ⟨RX4, "hasBodyOf", "(LFlashTrust$Paper;)Z"⟩
abbrev cX4_givesLike : ByteArray := prog_6_method_10_code
def yX4_givesLike : MethodName := ⟨RX4, "givesLike", "(LFlashTrust$Paper;I)Z"⟩
abbrev cX4_tell : ByteArray := prog_6_method_11_code
def yX4_tell : MethodName := ⟨RX4, "tell", "(II)I"⟩
abbrev cX4_isRole : ByteArray := prog_6_method_12_code
def yX4_isRole : MethodName := ⟨RX4, "isRole", "(I)Z"⟩
abbrev cX4_isImage : ByteArray := prog_6_method_13_code
def yX4_isImage : MethodName := ⟨RX4, "isImage", "(I)Z"⟩
def RX5 : String := "FlashTrust$Row"
def TX5 : u_T := fun k => match k with
  | 0 => ("FlashTrust$Row", "cells", "[I", true)
  | _ => ("FlashTrust$Row", "size", "I", false)
def tyX5 : Nat → FieldType := fun k => match k with
  | 0 => .array .int
  | _ => .int
theorem nmX5 : ∀ a, a < 2 → ∀ b, b < 2 → a ≠ b → (TX5 a).2.1 ≠ (TX5 b).2.1 := by decide +kernel
theorem tyX5_ok : ∀ k, k < 2 → parseFieldDescriptor (TX5 k).2.2.1 = some (tyX5 k) := by decide +kernel
abbrev cX5_init : ByteArray := prog_7_method_1_code
def yX5_init : MethodName := ⟨RX5, "<init>", "(I)V"⟩
abbrev cX5_size : ByteArray := prog_7_method_2_code
def yX5_size : MethodName := ⟨RX5, "size", "()I"⟩
abbrev cX5_has : ByteArray := prog_7_method_3_code
def yX5_has : MethodName := ⟨RX5, "has", "(I)Z"⟩
abbrev cX5_at : ByteArray := prog_7_method_4_code
def yX5_at : MethodName := ⟨RX5, "at", "(I)I"⟩
abbrev cX5_set : ByteArray := prog_7_method_5_code
def yX5_set : MethodName := ⟨RX5, "set", "(II)V"⟩
abbrev cX5_empty : ByteArray := prog_7_method_6_code
def yX5_empty : MethodName := ⟨RX5, "empty", "()V"⟩
abbrev cX5_shorten : ByteArray := prog_7_method_7_code
def yX5_shorten : MethodName := ⟨RX5, "shorten", "(I)V"⟩
abbrev cX5_add : ByteArray := prog_7_method_8_code
def yX5_add : MethodName := ⟨RX5, "add", "(I)V"⟩
abbrev cX5_addNumber : ByteArray := prog_7_method_9_code
def yX5_addNumber : MethodName := ⟨RX5, "addNumber", "(JI)V"⟩
abbrev cX5_addFrom : ByteArray := prog_7_method_10_code
def yX5_addFrom : MethodName := ⟨RX5, "addFrom", "(LFlashTrust$Row;II)V"⟩
abbrev cX5_number : ByteArray := prog_7_method_11_code
def yX5_number : MethodName := ⟨RX5, "number", "(II)J"⟩
abbrev cX5_keyBits : ByteArray := prog_7_method_12_code
def yX5_keyBits : MethodName := ⟨RX5, "keyBits", "(II)I"⟩
abbrev cX5_addKeys : ByteArray := prog_7_method_13_code
def yX5_addKeys : MethodName := ⟨RX5, "addKeys", "(I)V"⟩
abbrev cX5_hash : ByteArray := prog_7_method_14_code
def yX5_hash : MethodName := ⟨RX5, "hash", "(II)J"⟩
abbrev cX5_checkOf : ByteArray := prog_7_method_15_code
def yX5_checkOf : MethodName := ⟨RX5, "checkOf", "(J)J"⟩
def RX6 : String := "FlashTrust$Shelf"
def TX6 : u_T := fun k => match k with
  | 0 => ("FlashTrust$Shelf", "flash", "LFlashTrust$Flash;", true)
  | 1 => ("FlashTrust$Shelf", "first", "LFlashTrust$Entry;", true)
  | 2 => ("FlashTrust$Shelf", "second", "LFlashTrust$Entry;", true)
  | 3 => ("FlashTrust$Shelf", "factory", "LFlashTrust$Paper;", true)
  | 4 => ("FlashTrust$Shelf", "hasFactory", "Z", true)
  | _ => ("FlashTrust$Shelf", "kept", "LFlashTrust$Row;", true)
def tyX6 : Nat → FieldType := fun k => match k with
  | 0 => .object "FlashTrust$Flash"
  | 1 => .object "FlashTrust$Entry"
  | 2 => .object "FlashTrust$Entry"
  | 3 => .object "FlashTrust$Paper"
  | 4 => .boolean
  | _ => .object "FlashTrust$Row"
theorem nmX6 : ∀ a, a < 6 → ∀ b, b < 6 → a ≠ b → (TX6 a).2.1 ≠ (TX6 b).2.1 := by decide +kernel
theorem tyX6_ok : ∀ k, k < 6 → parseFieldDescriptor (TX6 k).2.2.1 = some (tyX6 k) := by decide +kernel
abbrev cX6_init : ByteArray := prog_8_method_1_code
def yX6_init : MethodName := ⟨RX6, "<init>", "(LFlashTrust$Flash;I)V"⟩
abbrev cX6_secondCounts : ByteArray := prog_8_method_2_code
def yX6_secondCounts : MethodName := ⟨RX6, "secondCounts", "()Z"⟩
abbrev cX6_counting : ByteArray := prog_8_method_3_code
def yX6_counting : MethodName := ⟨RX6, "counting", "()LFlashTrust$Entry;"⟩
abbrev cX6_number : ByteArray := prog_8_method_4_code
def yX6_number : MethodName := ⟨RX6, "number", "()I"⟩
abbrev cX6_holds : ByteArray := prog_8_method_5_code
def yX6_holds : MethodName := ⟨RX6, "holds", "()Z"⟩
abbrev cX6_paper : ByteArray := prog_8_method_6_code
def yX6_paper : MethodName := ⟨RX6, "paper", "()LFlashTrust$Paper;"⟩
abbrev cX6_holdsBodyOf : ByteArray := prog_8_method_7_code
def yX6_holdsBodyOf : MethodName := ⟨RX6, "holdsBodyOf", "(LFlashTrust$Paper;)Z"⟩
abbrev cX6_keep : ByteArray := prog_8_method_8_code
def yX6_keep : MethodName := ⟨RX6, "keep", "(LFlashTrust$Row;)V"⟩
def RX7 : String := "FlashTrust$Signatures"
def TX7 : u_T := fun k => match k with
  | 0 => ("FlashTrust$Signatures", "keys", "[I", true)
  | 1 => ("FlashTrust$Signatures", "hashes", "[J", true)
  | _ => ("FlashTrust$Signatures", "count", "I", false)
def tyX7 : Nat → FieldType := fun k => match k with
  | 0 => .array .int
  | 1 => .array .long
  | _ => .int
theorem nmX7 : ∀ a, a < 3 → ∀ b, b < 3 → a ≠ b → (TX7 a).2.1 ≠ (TX7 b).2.1 := by decide +kernel
theorem tyX7_ok : ∀ k, k < 3 → parseFieldDescriptor (TX7 k).2.2.1 = some (tyX7 k) := by decide +kernel
abbrev cX7_init : ByteArray := prog_9_method_1_code
def yX7_init : MethodName := ⟨RX7, "<init>", "()V"⟩
abbrev cX7_has : ByteArray := prog_9_method_2_code
def yX7_has : MethodName := ⟨RX7, "has", "(IJ)Z"⟩
abbrev cX7_add : ByteArray := prog_9_method_3_code
def yX7_add : MethodName := ⟨RX7, "add", "(IJ)Z"⟩
def RX8 : String := "FlashTrust$States"
def TX8 : u_T := fun k => match k with
  | 0 => ("FlashTrust$States", "flash", "LFlashTrust$Flash;", true)
  | 1 => ("FlashTrust$States", "factoryLength", "I", true)
  | 2 => ("FlashTrust$States", "factoryHash", "J", true)
  | 3 => ("FlashTrust$States", "page", "LFlashTrust$Row;", true)
  | 4 => ("FlashTrust$States", "place", "I", false)
  | 5 => ("FlashTrust$States", "number", "I", false)
  | 6 => ("FlashTrust$States", "slot", "I", false)
  | 7 => ("FlashTrust$States", "version", "I", false)
  | 8 => ("FlashTrust$States", "length", "I", false)
  | 9 => ("FlashTrust$States", "hash", "J", false)
  | 10 => ("FlashTrust$States", "staged", "I", false)
  | 11 => ("FlashTrust$States", "stagedVersion", "I", false)
  | 12 => ("FlashTrust$States", "stagedLength", "I", false)
  | _ => ("FlashTrust$States", "stagedHash", "J", false)
def tyX8 : Nat → FieldType := fun k => match k with
  | 0 => .object "FlashTrust$Flash"
  | 1 => .int
  | 2 => .long
  | 3 => .object "FlashTrust$Row"
  | 4 => .int
  | 5 => .int
  | 6 => .int
  | 7 => .int
  | 8 => .int
  | 9 => .long
  | 10 => .int
  | 11 => .int
  | 12 => .int
  | _ => .long
theorem nmX8 : ∀ a, a < 14 → ∀ b, b < 14 → a ≠ b → (TX8 a).2.1 ≠ (TX8 b).2.1 := by decide +kernel
theorem tyX8_ok : ∀ k, k < 14 → parseFieldDescriptor (TX8 k).2.2.1 = some (tyX8 k) := by decide +kernel
abbrev cX8_init : ByteArray := prog_10_method_1_code
def yX8_init : MethodName := ⟨RX8, "<init>", "(LFlashTrust$Flash;I)V"⟩
abbrev cX8_install : ByteArray := prog_10_method_2_code
def yX8_install : MethodName := ⟨RX8, "install", "()V"⟩
abbrev cX8_becomeFactory : ByteArray := prog_10_method_3_code
def yX8_becomeFactory : MethodName := ⟨RX8, "becomeFactory", "()V"⟩
abbrev cX8_stage : ByteArray := prog_10_method_4_code
def yX8_stage : MethodName := ⟨RX8, "stage", "(IIIJ)V"⟩
abbrev cX8_stageNothing : ByteArray := prog_10_method_5_code
def yX8_stageNothing : MethodName := ⟨RX8, "stageNothing", "()V"⟩
abbrev cX8_confirmStaged : ByteArray := prog_10_method_6_code
def yX8_confirmStaged : MethodName := ⟨RX8, "confirmStaged", "()V"⟩
abbrev cX8_otherSlot : ByteArray := prog_10_method_7_code
def yX8_otherSlot : MethodName := ⟨RX8, "otherSlot", "()I"⟩
abbrev cX8_stages : ByteArray := prog_10_method_8_code
def yX8_stages : MethodName := ⟨RX8, "stages", "(IIJ)Z"⟩
abbrev cX8_store : ByteArray := prog_10_method_9_code
def yX8_store : MethodName := ⟨RX8, "store", "()V"⟩
abbrev cX8_nextBlank : ByteArray := prog_10_method_10_code
def yX8_nextBlank : MethodName := ⟨RX8, "nextBlank", "(I)I"⟩
abbrev cX8_compose : ByteArray := prog_10_method_11_code
def yX8_compose : MethodName := ⟨RX8, "compose", "(I)V"⟩
abbrev cX8_look : ByteArray := prog_10_method_12_code
def yX8_look : MethodName := ⟨RX8, "look", "()V"⟩
abbrev cX8_fits : ByteArray := prog_10_method_13_code
def yX8_fits : MethodName := ⟨RX8, "fits", "(I)Z"⟩
abbrev cX8_isProgramLength : ByteArray := prog_10_method_14_code
def yX8_isProgramLength : MethodName := ⟨RX8, "isProgramLength", "(J)Z"⟩
abbrev cX8_load : ByteArray := prog_10_method_15_code
def yX8_load : MethodName := ⟨RX8, "load", "(I)V"⟩
abbrev cX8_tell : ByteArray := prog_10_method_16_code
def yX8_tell : MethodName := ⟨RX8, "tell", "(I)I"⟩
def RX9 : String := "FlashTrust$Update"
def TX9 : u_T := fun k => match k with
  | 0 => ("FlashTrust$Update", "flash", "LFlashTrust$Flash;", true)
  | 1 => ("FlashTrust$Update", "shelves", "[LFlashTrust$Shelf;", true)
  | 2 => ("FlashTrust$Update", "states", "LFlashTrust$States;", true)
  | 3 => ("FlashTrust$Update", "signatures", "LFlashTrust$Signatures;", true)
  | 4 => ("FlashTrust$Update", "came", "LFlashTrust$Paper;", true)
  | 5 => ("FlashTrust$Update", "noDocument", "LFlashTrust$Row;", true)
  | 6 => ("FlashTrust$Update", "awaited", "I", false)
  | 7 => ("FlashTrust$Update", "piece", "I", false)
  | 8 => ("FlashTrust$Update", "clock", "I", false)
  | _ => ("FlashTrust$Update", "error", "I", false)
def tyX9 : Nat → FieldType := fun k => match k with
  | 0 => .object "FlashTrust$Flash"
  | 1 => .array (.object "FlashTrust$Shelf")
  | 2 => .object "FlashTrust$States"
  | 3 => .object "FlashTrust$Signatures"
  | 4 => .object "FlashTrust$Paper"
  | 5 => .object "FlashTrust$Row"
  | 6 => .int
  | 7 => .int
  | 8 => .int
  | _ => .int
theorem nmX9 : ∀ a, a < 10 → ∀ b, b < 10 → a ≠ b → (TX9 a).2.1 ≠ (TX9 b).2.1 := by decide +kernel
theorem tyX9_ok : ∀ k, k < 10 → parseFieldDescriptor (TX9 k).2.2.1 = some (tyX9 k) := by decide +kernel
abbrev cX9_init : ByteArray := prog_11_method_1_code
def yX9_init : MethodName := ⟨RX9, "<init>", "(LFlashTrust$Flash;[LFlashTrust$Shelf;LFlashTrust$States;LFlashTrust$Signatures;)V"⟩
abbrev cX9_goesOn : ByteArray := prog_11_method_2_code
def yX9_goesOn : MethodName := ⟨RX9, "goesOn", "()Z"⟩
abbrev cX9_start : ByteArray := prog_11_method_3_code
def yX9_start : MethodName := ⟨RX9, "start", "(I)I"⟩
abbrev cX9_giveUp : ByteArray := prog_11_method_4_code
def yX9_giveUp : MethodName := ⟨RX9, "giveUp", "()V"⟩
abbrev cX9_fail : ByteArray := prog_11_method_5_code
def yX9_fail : MethodName := ⟨RX9, "fail", "(I)I"⟩
abbrev cX9_trustedPaper : ByteArray := prog_11_method_6_code
def yX9_trustedPaper : MethodName := ⟨RX9, "trustedPaper", "(I)LFlashTrust$Paper;"⟩
abbrev cX9_wantedVersion : ByteArray := prog_11_method_7_code
def yX9_wantedVersion : MethodName := ⟨RX9, "wantedVersion", "()I"⟩
abbrev cX9_takeRefusal : ByteArray := prog_11_method_8_code
def yX9_takeRefusal : MethodName := ⟨RX9, "takeRefusal", "()I"⟩
abbrev cX9_takeRoot : ByteArray := prog_11_method_9_code
def yX9_takeRoot : MethodName := ⟨RX9, "takeRoot", "(LFlashTrust$Row;)I"⟩
abbrev cX9_hasRole : ByteArray := prog_11_method_10_code
def yX9_hasRole : MethodName := ⟨RX9, "hasRole", "(LFlashTrust$Paper;LFlashTrust$Paper;I)Z"⟩
abbrev cX9_takePaper : ByteArray := prog_11_method_11_code
def yX9_takePaper : MethodName := ⟨RX9, "takePaper", "(LFlashTrust$Row;)I"⟩
abbrev cX9_judge : ByteArray := prog_11_method_12_code
def yX9_judge : MethodName := ⟨RX9, "judge", "(LFlashTrust$Paper;I)I"⟩
abbrev cX9_isTrustedAsTold : ByteArray := prog_11_method_13_code
def yX9_isTrustedAsTold : MethodName := ⟨RX9, "isTrustedAsTold", "(I)Z"⟩
abbrev cX9_chooseImage : ByteArray := prog_11_method_14_code
def yX9_chooseImage : MethodName := ⟨RX9, "chooseImage", "()I"⟩
abbrev cX9_takePiece : ByteArray := prog_11_method_15_code
def yX9_takePiece : MethodName := ⟨RX9, "takePiece", "(LFlashTrust$Row;)I"⟩
abbrev cX9_finishProgram : ByteArray := prog_11_method_16_code
def yX9_finishProgram : MethodName := ⟨RX9, "finishProgram", "()I"⟩
def RX10 : String := "FlashTrust"
def TX10 : u_T := fun k => match k with
  | 0 => ("FlashTrust", "tape", "LFlashTrust$Row;", true)
  | 1 => ("FlashTrust", "maker", "LFlashTrust$Maker;", true)
  | 2 => ("FlashTrust", "flash", "LFlashTrust$Flash;", true)
  | 3 => ("FlashTrust", "shelves", "[LFlashTrust$Shelf;", true)
  | 4 => ("FlashTrust", "states", "LFlashTrust$States;", true)
  | 5 => ("FlashTrust", "loader", "LFlashTrust$Loader;", true)
  | _ => ("FlashTrust", "update", "LFlashTrust$Update;", true)
def tyX10 : Nat → FieldType := fun k => match k with
  | 0 => .object "FlashTrust$Row"
  | 1 => .object "FlashTrust$Maker"
  | 2 => .object "FlashTrust$Flash"
  | 3 => .array (.object "FlashTrust$Shelf")
  | 4 => .object "FlashTrust$States"
  | 5 => .object "FlashTrust$Loader"
  | _ => .object "FlashTrust$Update"
theorem nmX10 : ∀ a, a < 7 → ∀ b, b < 7 → a ≠ b → (TX10 a).2.1 ≠ (TX10 b).2.1 := by decide +kernel
theorem tyX10_ok : ∀ k, k < 7 → parseFieldDescriptor (TX10 k).2.2.1 = some (tyX10 k) := by decide +kernel
abbrev cX10_init : ByteArray := prog_1_method_1_code
def yX10_init : MethodName := ⟨RX10, "<init>", "(I)V"⟩
abbrev cX10_feed : ByteArray := prog_1_method_2_code
def yX10_feed : MethodName := ⟨RX10, "feed", "(IIIII)I"⟩
abbrev cX10_end : ByteArray := prog_1_method_3_code
def yX10_end : MethodName := ⟨RX10, "end", "(I)I"⟩
abbrev cX10_byteOf : ByteArray := prog_1_method_4_code
def yX10_byteOf : MethodName := ⟨RX10, "byteOf", "(I)I"⟩
abbrev cX10_plan : ByteArray := prog_1_method_5_code
def yX10_plan : MethodName := ⟨RX10, "plan", "(III)I"⟩
abbrev cX10_image : ByteArray := prog_1_method_6_code
def yX10_image : MethodName := ⟨RX10, "image", "(III)I"⟩
abbrev cX10_clear : ByteArray := prog_1_method_7_code
def yX10_clear : MethodName := ⟨RX10, "clear", "()I"⟩
abbrev cX10_draft : ByteArray := prog_1_method_8_code
def yX10_draft : MethodName := ⟨RX10, "draft", "(III)I"⟩
abbrev cX10_sign : ByteArray := prog_1_method_9_code
def yX10_sign : MethodName := ⟨RX10, "sign", "(I)I"⟩
abbrev cX10_show : ByteArray := prog_1_method_10_code
def yX10_show : MethodName := ⟨RX10, "show", "()I"⟩
abbrev cX10_piece : ByteArray := prog_1_method_11_code
def yX10_piece : MethodName := ⟨RX10, "piece", "(II)I"⟩
abbrev cX10_spoil : ByteArray := prog_1_method_12_code
def yX10_spoil : MethodName := ⟨RX10, "spoil", "(II)I"⟩
abbrev cX10_begin : ByteArray := prog_1_method_13_code
def yX10_begin : MethodName := ⟨RX10, "begin", "(I)I"⟩
abbrev cX10_answer : ByteArray := prog_1_method_14_code
def yX10_answer : MethodName := ⟨RX10, "answer", "()I"⟩
abbrev cX10_refuse : ByteArray := prog_1_method_15_code
def yX10_refuse : MethodName := ⟨RX10, "refuse", "()I"⟩
abbrev cX10_awaits : ByteArray := prog_1_method_16_code
def yX10_awaits : MethodName := ⟨RX10, "awaits", "(I)I"⟩
abbrev cX10_stop : ByteArray := prog_1_method_17_code
def yX10_stop : MethodName := ⟨RX10, "stop", "()I"⟩
abbrev cX10_power : ByteArray := prog_1_method_18_code
def yX10_power : MethodName := ⟨RX10, "power", "(II)I"⟩
abbrev cX10_boot : ByteArray := prog_1_method_19_code
def yX10_boot : MethodName := ⟨RX10, "boot", "()I"⟩
abbrev cX10_test : ByteArray := prog_1_method_20_code
def yX10_test : MethodName := ⟨RX10, "test", "(Z)I"⟩
abbrev cX10_told : ByteArray := prog_1_method_21_code
def yX10_told : MethodName := ⟨RX10, "told", "(I)I"⟩
abbrev cX10_trusted : ByteArray := prog_1_method_22_code
def yX10_trusted : MethodName := ⟨RX10, "trusted", "(III)I"⟩
abbrev cX10_flash : ByteArray := prog_1_method_23_code
def yX10_flash : MethodName := ⟨RX10, "flash", "(II)I"⟩
abbrev cX10_digest : ByteArray := prog_1_method_24_code
def yX10_digest : MethodName := ⟨RX10, "digest", "()J"⟩
abbrev cX10_unlessDown : ByteArray := prog_1_method_25_code
def yX10_unlessDown : MethodName := ⟨RX10, "unlessDown", "(I)I"⟩
def RX11 : String := "FlashTrustModel"
def TX11 : u_T := fun k => match k with
  | 0 => ("FlashTrustModel", "flash", "[I", true)
  | 1 => ("FlashTrustModel", "factoryLength", "I", true)
  | 2 => ("FlashTrustModel", "factoryDigest", "J", true)
  | 3 => ("FlashTrustModel", "isDown", "Z", false)
  | 4 => ("FlashTrustModel", "writings", "I", false)
  | 5 => ("FlashTrustModel", "erasings", "I", false)
  | 6 => ("FlashTrustModel", "powerLeft", "I", false)
  | 7 => ("FlashTrustModel", "powerMask", "I", false)
  | 8 => ("FlashTrustModel", "runs", "I", false)
  | 9 => ("FlashTrustModel", "onTrial", "Z", false)
  | 10 => ("FlashTrustModel", "h", "J", false)
  | 11 => ("FlashTrustModel", "tape", "[I", true)
  | 12 => ("FlashTrustModel", "taped", "I", false)
  | 13 => ("FlashTrustModel", "page", "[I", true)
  | 14 => ("FlashTrustModel", "sAt", "I", false)
  | 15 => ("FlashTrustModel", "sNumber", "I", false)
  | 16 => ("FlashTrustModel", "sSlot", "I", false)
  | 17 => ("FlashTrustModel", "sVersion", "I", false)
  | 18 => ("FlashTrustModel", "sLength", "I", false)
  | 19 => ("FlashTrustModel", "sDigest", "J", false)
  | 20 => ("FlashTrustModel", "sStaged", "I", false)
  | 21 => ("FlashTrustModel", "gVersion", "I", false)
  | 22 => ("FlashTrustModel", "gLength", "I", false)
  | 23 => ("FlashTrustModel", "gDigest", "J", false)
  | 24 => ("FlashTrustModel", "pageAt", "I", false)
  | 25 => ("FlashTrustModel", "doc", "[I", true)
  | 26 => ("FlashTrustModel", "docSize", "I", false)
  | 27 => ("FlashTrustModel", "docRole", "I", false)
  | 28 => ("FlashTrustModel", "bodyFrom", "I", false)
  | 29 => ("FlashTrustModel", "bodySize", "I", false)
  | 30 => ("FlashTrustModel", "docKeys", "I", false)
  | 31 => ("FlashTrustModel", "docVersion", "I", false)
  | 32 => ("FlashTrustModel", "docEnd", "J", false)
  | 33 => ("FlashTrustModel", "roleKeys", "[I", true)
  | 34 => ("FlashTrustModel", "roleThreshold", "[I", true)
  | 35 => ("FlashTrustModel", "toldVersion", "I", false)
  | 36 => ("FlashTrustModel", "toldDigest", "J", false)
  | 37 => ("FlashTrustModel", "images", "I", false)
  | 38 => ("FlashTrustModel", "imageVersion", "[I", true)
  | 39 => ("FlashTrustModel", "imageLength", "[I", true)
  | 40 => ("FlashTrustModel", "imageDigest", "[J", true)
  | 41 => ("FlashTrustModel", "signedKey", "[I", true)
  | 42 => ("FlashTrustModel", "signedDigest", "[J", true)
  | 43 => ("FlashTrustModel", "signed", "I", false)
  | 44 => ("FlashTrustModel", "recordSector", "I", false)
  | 45 => ("FlashTrustModel", "recordNumber", "I", false)
  | 46 => ("FlashTrustModel", "recordSize", "I", false)
  | 47 => ("FlashTrustModel", "record", "[I", true)
  | 48 => ("FlashTrustModel", "awaited", "I", false)
  | 49 => ("FlashTrustModel", "clock", "I", false)
  | 50 => ("FlashTrustModel", "lastError", "I", false)
  | 51 => ("FlashTrustModel", "pieceNow", "I", false)
  | 52 => ("FlashTrustModel", "wantVersion", "I", false)
  | 53 => ("FlashTrustModel", "wantLength", "I", false)
  | 54 => ("FlashTrustModel", "wantDigest", "J", false)
  | 55 => ("FlashTrustModel", "came", "[I", true)
  | 56 => ("FlashTrustModel", "cameSize", "I", false)
  | 57 => ("FlashTrustModel", "trustedKeys", "I", false)
  | 58 => ("FlashTrustModel", "trustedThreshold", "I", false)
  | 59 => ("FlashTrustModel", "wasThere", "Z", false)
  | 60 => ("FlashTrustModel", "wasVersion", "I", false)
  | 61 => ("FlashTrustModel", "wasTold", "I", false)
  | 62 => ("FlashTrustModel", "wasDigest", "J", false)
  | 63 => ("FlashTrustModel", "planKeys", "[I", true)
  | 64 => ("FlashTrustModel", "planThreshold", "[I", true)
  | 65 => ("FlashTrustModel", "planImages", "I", false)
  | 66 => ("FlashTrustModel", "planVersion", "[I", true)
  | 67 => ("FlashTrustModel", "planLength", "[I", true)
  | 68 => ("FlashTrustModel", "planSeed", "[I", true)
  | 69 => ("FlashTrustModel", "draft", "[I", true)
  | 70 => ("FlashTrustModel", "draftRole", "I", false)
  | 71 => ("FlashTrustModel", "draftSize", "I", false)
  | 72 => ("FlashTrustModel", "draftKeys", "I", false)
  | 73 => ("FlashTrustModel", "lastVersion", "[I", true)
  | _ => ("FlashTrustModel", "lastDigest", "[J", true)
def tyX11 : Nat → FieldType := fun k => match k with
  | 0 => .array .int
  | 1 => .int
  | 2 => .long
  | 3 => .boolean
  | 4 => .int
  | 5 => .int
  | 6 => .int
  | 7 => .int
  | 8 => .int
  | 9 => .boolean
  | 10 => .long
  | 11 => .array .int
  | 12 => .int
  | 13 => .array .int
  | 14 => .int
  | 15 => .int
  | 16 => .int
  | 17 => .int
  | 18 => .int
  | 19 => .long
  | 20 => .int
  | 21 => .int
  | 22 => .int
  | 23 => .long
  | 24 => .int
  | 25 => .array .int
  | 26 => .int
  | 27 => .int
  | 28 => .int
  | 29 => .int
  | 30 => .int
  | 31 => .int
  | 32 => .long
  | 33 => .array .int
  | 34 => .array .int
  | 35 => .int
  | 36 => .long
  | 37 => .int
  | 38 => .array .int
  | 39 => .array .int
  | 40 => .array .long
  | 41 => .array .int
  | 42 => .array .long
  | 43 => .int
  | 44 => .int
  | 45 => .int
  | 46 => .int
  | 47 => .array .int
  | 48 => .int
  | 49 => .int
  | 50 => .int
  | 51 => .int
  | 52 => .int
  | 53 => .int
  | 54 => .long
  | 55 => .array .int
  | 56 => .int
  | 57 => .int
  | 58 => .int
  | 59 => .boolean
  | 60 => .int
  | 61 => .int
  | 62 => .long
  | 63 => .array .int
  | 64 => .array .int
  | 65 => .int
  | 66 => .array .int
  | 67 => .array .int
  | 68 => .array .int
  | 69 => .array .int
  | 70 => .int
  | 71 => .int
  | 72 => .int
  | 73 => .array .int
  | _ => .array .long
theorem nmX11 : ∀ a, a < 75 → ∀ b, b < 75 → a ≠ b → (TX11 a).2.1 ≠ (TX11 b).2.1 := by decide +kernel
theorem tyX11_ok : ∀ k, k < 75 → parseFieldDescriptor (TX11 k).2.2.1 = some (tyX11 k) := by decide +kernel
abbrev cX11_init : ByteArray := prog_13_method_1_code
def yX11_init : MethodName := ⟨RX11, "<init>", "(I)V"⟩
abbrev cX11_slotAt : ByteArray := prog_13_method_2_code
def yX11_slotAt : MethodName := ⟨RX11, "slotAt", "(I)I"⟩
abbrev cX11_digestBegin : ByteArray := prog_13_method_3_code
def yX11_digestBegin : MethodName := ⟨RX11, "digestBegin", "()V"⟩
abbrev cX11_digestByte : ByteArray := prog_13_method_4_code
def yX11_digestByte : MethodName := ⟨RX11, "digestByte", "(I)V"⟩
abbrev cX11_slotDigest : ByteArray := prog_13_method_5_code
def yX11_slotDigest : MethodName := ⟨RX11, "slotDigest", "(II)J"⟩
abbrev cX11_feed : ByteArray := prog_13_method_6_code
def yX11_feed : MethodName := ⟨RX11, "feed", "(IIIII)I"⟩
abbrev cX11_end : ByteArray := prog_13_method_7_code
def yX11_end : MethodName := ⟨RX11, "end", "(I)I"⟩
abbrev cX11_byteOf : ByteArray := prog_13_method_8_code
def yX11_byteOf : MethodName := ⟨RX11, "byteOf", "(I)I"⟩
abbrev cX11_spoil : ByteArray := prog_13_method_9_code
def yX11_spoil : MethodName := ⟨RX11, "spoil", "(II)I"⟩
abbrev cX11_digest : ByteArray := prog_13_method_10_code
def yX11_digest : MethodName := ⟨RX11, "digest", "()J"⟩
abbrev cX11_hasPower : ByteArray := prog_13_method_11_code
def yX11_hasPower : MethodName := ⟨RX11, "hasPower", "()Z"⟩
abbrev cX11_writePage : ByteArray := prog_13_method_12_code
def yX11_writePage : MethodName := ⟨RX11, "writePage", "(I)V"⟩
abbrev cX11_erase : ByteArray := prog_13_method_13_code
def yX11_erase : MethodName := ⟨RX11, "erase", "(I)V"⟩
abbrev cX11_flash : ByteArray := prog_13_method_14_code
def yX11_flash : MethodName := ⟨RX11, "flash", "(II)I"⟩
abbrev cX11_wide : ByteArray := prog_13_method_15_code
def yX11_wide : MethodName := ⟨RX11, "wide", "(II)I"⟩
abbrev cX11_checkOf : ByteArray := prog_13_method_16_code
def yX11_checkOf : MethodName := ⟨RX11, "checkOf", "(II)I"⟩
abbrev cX11_checkNow : ByteArray := prog_13_method_17_code
def yX11_checkNow : MethodName := ⟨RX11, "checkNow", "()I"⟩
abbrev cX11_six : ByteArray := prog_13_method_18_code
def yX11_six : MethodName := ⟨RX11, "six", "(I)J"⟩
abbrev cX11_isState : ByteArray := prog_13_method_19_code
def yX11_isState : MethodName := ⟨RX11, "isState", "(I)Z"⟩
abbrev cX11_layState : ByteArray := prog_13_method_20_code
def yX11_layState : MethodName := ⟨RX11, "layState", "()V"⟩
abbrev cX11_put : ByteArray := prog_13_method_21_code
def yX11_put : MethodName := ⟨RX11, "put", "(JI)V"⟩
abbrev cX11_layPage : ByteArray := prog_13_method_22_code
def yX11_layPage : MethodName := ⟨RX11, "layPage", "(I)V"⟩
abbrev cX11_isErased : ByteArray := prog_13_method_23_code
def yX11_isErased : MethodName := ⟨RX11, "isErased", "(I)Z"⟩
abbrev cX11_writeState : ByteArray := prog_13_method_24_code
def yX11_writeState : MethodName := ⟨RX11, "writeState", "(I)V"⟩
abbrev cX11_docWide : ByteArray := prog_13_method_25_code
def yX11_docWide : MethodName := ⟨RX11, "docWide", "(II)I"⟩
abbrev cX11_docLong : ByteArray := prog_13_method_26_code
def yX11_docLong : MethodName := ⟨RX11, "docLong", "(I)J"⟩
abbrev cX11_keysAt : ByteArray := prog_13_method_27_code
def yX11_keysAt : MethodName := ⟨RX11, "keysAt", "(II)I"⟩
abbrev cX11_readDoc : ByteArray := prog_13_method_28_code
def yX11_readDoc : MethodName := ⟨RX11, "readDoc", "()Z"⟩
abbrev cX11_readRoles : ByteArray := prog_13_method_29_code
def yX11_readRoles : MethodName := ⟨RX11, "readRoles", "()Z"⟩
abbrev cX11_readImages : ByteArray := prog_13_method_30_code
def yX11_readImages : MethodName := ⟨RX11, "readImages", "()Z"⟩
abbrev cX11_bodyDigest : ByteArray := prog_13_method_31_code
def yX11_bodyDigest : MethodName := ⟨RX11, "bodyDigest", "()J"⟩
abbrev cX11_hasSigned : ByteArray := prog_13_method_32_code
def yX11_hasSigned : MethodName := ⟨RX11, "hasSigned", "(IJ)Z"⟩
abbrev cX11_has : ByteArray := prog_13_method_33_code
def yX11_has : MethodName := ⟨RX11, "has", "(II)Z"⟩
abbrev cX11_isRecord : ByteArray := prog_13_method_34_code
def yX11_isRecord : MethodName := ⟨RX11, "isRecord", "(III)Z"⟩
abbrev cX11_findRecord : ByteArray := prog_13_method_35_code
def yX11_findRecord : MethodName := ⟨RX11, "findRecord", "(I)V"⟩
abbrev cX11_takeTrusted : ByteArray := prog_13_method_36_code
def yX11_takeTrusted : MethodName := ⟨RX11, "takeTrusted", "(I)Z"⟩
abbrev cX11_keepRecord : ByteArray := prog_13_method_37_code
def yX11_keepRecord : MethodName := ⟨RX11, "keepRecord", "(II)V"⟩
abbrev cX11_keepDoc : ByteArray := prog_13_method_38_code
def yX11_keepDoc : MethodName := ⟨RX11, "keepDoc", "()V"⟩
abbrev cX11_takeCame : ByteArray := prog_13_method_39_code
def yX11_takeCame : MethodName := ⟨RX11, "takeCame", "()V"⟩
abbrev cX11_fail : ByteArray := prog_13_method_40_code
def yX11_fail : MethodName := ⟨RX11, "fail", "(I)I"⟩
abbrev cX11_begin : ByteArray := prog_13_method_41_code
def yX11_begin : MethodName := ⟨RX11, "begin", "(I)I"⟩
abbrev cX11_answer : ByteArray := prog_13_method_42_code
def yX11_answer : MethodName := ⟨RX11, "answer", "()I"⟩
abbrev cX11_refuse : ByteArray := prog_13_method_43_code
def yX11_refuse : MethodName := ⟨RX11, "refuse", "()I"⟩
abbrev cX11_takeRole : ByteArray := prog_13_method_44_code
def yX11_takeRole : MethodName := ⟨RX11, "takeRole", "(I)V"⟩
abbrev cX11_takeRoot : ByteArray := prog_13_method_45_code
def yX11_takeRoot : MethodName := ⟨RX11, "takeRoot", "()I"⟩
abbrev cX11_dropTrusted : ByteArray := prog_13_method_46_code
def yX11_dropTrusted : MethodName := ⟨RX11, "dropTrusted", "(I)V"⟩
abbrev cX11_takeWas : ByteArray := prog_13_method_47_code
def yX11_takeWas : MethodName := ⟨RX11, "takeWas", "(I)V"⟩
abbrev cX11_keepOther : ByteArray := prog_13_method_48_code
def yX11_keepOther : MethodName := ⟨RX11, "keepOther", "(I)V"⟩
abbrev cX11_takeTime : ByteArray := prog_13_method_49_code
def yX11_takeTime : MethodName := ⟨RX11, "takeTime", "()I"⟩
abbrev cX11_goToList : ByteArray := prog_13_method_50_code
def yX11_goToList : MethodName := ⟨RX11, "goToList", "()I"⟩
abbrev cX11_saveCame : ByteArray := prog_13_method_51_code
def yX11_saveCame : MethodName := ⟨RX11, "saveCame", "()V"⟩
abbrev cX11_takeList : ByteArray := prog_13_method_52_code
def yX11_takeList : MethodName := ⟨RX11, "takeList", "()I"⟩
abbrev cX11_goToImages : ByteArray := prog_13_method_53_code
def yX11_goToImages : MethodName := ⟨RX11, "goToImages", "()I"⟩
abbrev cX11_takeImages : ByteArray := prog_13_method_54_code
def yX11_takeImages : MethodName := ⟨RX11, "takeImages", "()I"⟩
abbrev cX11_goToPieces : ByteArray := prog_13_method_55_code
def yX11_goToPieces : MethodName := ⟨RX11, "goToPieces", "()I"⟩
abbrev cX11_takePiece : ByteArray := prog_13_method_56_code
def yX11_takePiece : MethodName := ⟨RX11, "takePiece", "(I)I"⟩
abbrev cX11_awaits : ByteArray := prog_13_method_57_code
def yX11_awaits : MethodName := ⟨RX11, "awaits", "(I)I"⟩
abbrev cX11_stop : ByteArray := prog_13_method_58_code
def yX11_stop : MethodName := ⟨RX11, "stop", "()I"⟩
abbrev cX11_power : ByteArray := prog_13_method_59_code
def yX11_power : MethodName := ⟨RX11, "power", "(II)I"⟩
abbrev cX11_runConfirmed : ByteArray := prog_13_method_60_code
def yX11_runConfirmed : MethodName := ⟨RX11, "runConfirmed", "()V"⟩
abbrev cX11_boot : ByteArray := prog_13_method_61_code
def yX11_boot : MethodName := ⟨RX11, "boot", "()I"⟩
abbrev cX11_test : ByteArray := prog_13_method_62_code
def yX11_test : MethodName := ⟨RX11, "test", "(Z)I"⟩
abbrev cX11_told : ByteArray := prog_13_method_63_code
def yX11_told : MethodName := ⟨RX11, "told", "(I)I"⟩
abbrev cX11_trusted : ByteArray := prog_13_method_64_code
def yX11_trusted : MethodName := ⟨RX11, "trusted", "(III)I"⟩
abbrev cX11_plan : ByteArray := prog_13_method_65_code
def yX11_plan : MethodName := ⟨RX11, "plan", "(III)I"⟩
abbrev cX11_image : ByteArray := prog_13_method_66_code
def yX11_image : MethodName := ⟨RX11, "image", "(III)I"⟩
abbrev cX11_clear : ByteArray := prog_13_method_67_code
def yX11_clear : MethodName := ⟨RX11, "clear", "()I"⟩
abbrev cX11_imageByte : ByteArray := prog_13_method_68_code
def yX11_imageByte : MethodName := ⟨RX11, "imageByte", "(II)I"⟩
abbrev cX11_draftPut : ByteArray := prog_13_method_69_code
def yX11_draftPut : MethodName := ⟨RX11, "draftPut", "(JI)V"⟩
abbrev cX11_draftKeysOf : ByteArray := prog_13_method_70_code
def yX11_draftKeysOf : MethodName := ⟨RX11, "draftKeysOf", "(I)V"⟩
abbrev cX11_many : ByteArray := prog_13_method_71_code
def yX11_many : MethodName := ⟨RX11, "many", "(I)I"⟩
abbrev cX11_draftDigest : ByteArray := prog_13_method_72_code
def yX11_draftDigest : MethodName := ⟨RX11, "draftDigest", "()J"⟩
abbrev cX11_draft : ByteArray := prog_13_method_73_code
def yX11_draft : MethodName := ⟨RX11, "draft", "(III)I"⟩
abbrev cX11_sign : ByteArray := prog_13_method_74_code
def yX11_sign : MethodName := ⟨RX11, "sign", "(I)I"⟩
abbrev cX11_show : ByteArray := prog_13_method_75_code
def yX11_show : MethodName := ⟨RX11, "show", "()I"⟩
abbrev cX11_piece : ByteArray := prog_13_method_76_code
def yX11_piece : MethodName := ⟨RX11, "piece", "(II)I"⟩
def RL : String := "FlashTrustLaw"
abbrev cL_cell : ByteArray := method_2_code
def yL_cell : MethodName := ⟨RL, "cell", "([II)I"⟩
abbrev cL_law : ByteArray := code
def yL_law : MethodName := ⟨RL, "law", "([I)Z"⟩
def RJ6 : String := "java/lang/Integer"
abbrev cJ6_bitCount_0f7a4 : ByteArray := prog_15_method_49_code
def yJ6_bitCount_0f7a4 : MethodName := ⟨RJ6, "bitCount", "(I)I"⟩
def RJ9 : String := "java/lang/Math"
abbrev cJ9_max_7cf53 : ByteArray := prog_16_method_65_code
def yJ9_max_7cf53 : MethodName := ⟨RJ9, "max", "(II)I"⟩
abbrev cJ9_min_7cf53 : ByteArray := prog_16_method_69_code
def yJ9_min_7cf53 : MethodName := ⟨RJ9, "min", "(II)I"⟩
abbrev vwCl : List vw_C := [(RX0, TX0, 6), (RX1, TX1, 6), (RX2, TX2, 4), (RX3, TX3, 14), (RX4, TX4, 15), (RX5, TX5, 2), (RX6, TX6, 6), (RX7, TX7, 3), (RX8, TX8, 14), (RX9, TX9, 10), (RX10, TX10, 7), (RX11, TX11, 75)]
theorem z_in1 (i : Nat) {w : Cond} (h : tables_1_1[i]? = some w) : w ∈ lw_tbl := List.mem_append_right _ (show w ∈ tables_1 from List.mem_append_left _ (List.mem_of_getElem? h))
theorem z_in2 (i : Nat) {w : Cond} (h : tables_1_2[i]? = some w) : w ∈ lw_tbl := List.mem_append_right _ (show w ∈ tables_1 from List.mem_append_right _ (List.mem_append_left _ (List.mem_of_getElem? h)))
theorem z_in3 (i : Nat) {w : Cond} (h : tables_1_3[i]? = some w) : w ∈ lw_tbl := List.mem_append_right _ (show w ∈ tables_1 from List.mem_append_right _ (List.mem_append_right _ (List.mem_append_left _ (List.mem_of_getElem? h))))
theorem z_in4 (i : Nat) {w : Cond} (h : tables_1_4[i]? = some w) : w ∈ lw_tbl := List.mem_append_right _ (show w ∈ tables_1 from List.mem_append_right _ (List.mem_append_right _ (List.mem_append_right _ (List.mem_append_left _ (List.mem_of_getElem? h)))))
theorem z_in5 (i : Nat) {w : Cond} (h : tables_1_5[i]? = some w) : w ∈ lw_tbl := List.mem_append_right _ (show w ∈ tables_1 from List.mem_append_right _ (List.mem_append_right _ (List.mem_append_right _ (List.mem_append_right _ (List.mem_append_left _ (List.mem_of_getElem? h))))))
theorem z_in6 (i : Nat) {w : Cond} (h : tables_1_6[i]? = some w) : w ∈ lw_tbl := List.mem_append_right _ (show w ∈ tables_1 from List.mem_append_right _ (List.mem_append_right _ (List.mem_append_right _ (List.mem_append_right _ (List.mem_append_right _ (List.mem_append_left _ (List.mem_of_getElem? h)))))))
theorem z_in7 (i : Nat) {w : Cond} (h : tables_1_7[i]? = some w) : w ∈ lw_tbl := List.mem_append_right _ (show w ∈ tables_1 from List.mem_append_right _ (List.mem_append_right _ (List.mem_append_right _ (List.mem_append_right _ (List.mem_append_right _ (List.mem_append_right _ (List.mem_of_getElem? h)))))))
theorem z_inl {ws : List Cond} (ps : List Nat) (h : ws = ps.filterMap (fun i => tables_1[i]?)) : ∀ w ∈ ws, w ∈ lw_tbl := by
  intro w hw
  rw [h] at hw
  obtain ⟨i, -, hi⟩ := List.mem_filterMap.mp hw
  exact List.mem_append_right _ (List.mem_of_getElem? hi)
set_option maxRecDepth 100000 in
theorem z_cw0 : ∀ w ∈ u_ws RX0 TX0 6, w ∈ lw_tbl := z_inl [263, 265, 267, 269, 271, 273] rfl
set_option maxRecDepth 100000 in
theorem z_cw1 : ∀ w ∈ u_ws RX1 TX1 6, w ∈ lw_tbl := z_inl [156, 158, 160, 162, 164, 166] rfl
set_option maxRecDepth 100000 in
theorem z_cw2 : ∀ w ∈ u_ws RX2 TX2 4, w ∈ lw_tbl := z_inl [453, 455, 457, 459] rfl
set_option maxRecDepth 100000 in
theorem z_cw3 : ∀ w ∈ u_ws RX3 TX3 14, w ∈ lw_tbl := z_inl [96, 98, 100, 102, 104, 106, 108, 110, 112, 114, 116, 118, 120, 122] rfl
set_option maxRecDepth 100000 in
theorem z_cw4 : ∀ w ∈ u_ws RX4 TX4 15, w ∈ lw_tbl := z_inl [212, 214, 216, 218, 220, 222, 224, 226, 228, 230, 232, 234, 236, 238, 240] rfl
set_option maxRecDepth 100000 in
theorem z_cw5 : ∀ w ∈ u_ws RX5 TX5 2, w ∈ lw_tbl := z_inl [34, 36] rfl
set_option maxRecDepth 100000 in
theorem z_cw6 : ∀ w ∈ u_ws RX6 TX6 6, w ∈ lw_tbl := z_inl [289, 291, 293, 295, 297, 299] rfl
set_option maxRecDepth 100000 in
theorem z_cw7 : ∀ w ∈ u_ws RX7 TX7 3, w ∈ lw_tbl := z_inl [55, 57, 59] rfl
set_option maxRecDepth 100000 in
theorem z_cw8 : ∀ w ∈ u_ws RX8 TX8 14, w ∈ lw_tbl := z_inl [351, 353, 355, 357, 359, 361, 363, 365, 367, 369, 371, 373, 375, 377] rfl
set_option maxRecDepth 100000 in
theorem z_cw9 : ∀ w ∈ u_ws RX9 TX9 10, w ∈ lw_tbl := z_inl [486, 488, 490, 492, 494, 496, 498, 500, 502, 504] rfl
set_option maxRecDepth 100000 in
theorem z_cw10 : ∀ w ∈ u_ws RX10 TX10 7, w ∈ lw_tbl := z_inl [514, 516, 518, 520, 522, 524, 526] rfl
set_option maxRecDepth 100000 in
theorem z_cw11 : ∀ w ∈ u_ws RX11 TX11 75, w ∈ lw_tbl := z_inl [1130, 1132, 1134, 1136, 1138, 1140, 1142, 1144, 1146, 1148, 1150, 1152, 1154, 1156, 1158, 1160, 1162, 1164, 1166, 1168, 1170, 1172, 1174, 1176, 1178, 1180, 1182, 1184, 1186, 1188, 1190, 1192, 1194, 1196, 1198, 1200, 1202, 1204, 1206, 1208, 1210, 1212, 1214, 1216, 1218, 1220, 1222, 1224, 1226, 1228, 1230, 1232, 1234, 1236, 1238, 1240, 1242, 1244, 1246, 1248, 1250, 1252, 1254, 1256, 1258, 1260, 1262, 1264, 1266, 1268, 1270, 1272, 1274, 1276, 1278] rfl
end
section
theorem dX0_init_0 : decode cX0_init 0 = .ok (.aload_n 0, 1) := by decide +kernel
theorem dX0_init_1 : decode cX0_init 1 = .ok (.invokespecial 3, 3) := by decide +kernel
theorem dX0_init_4 : decode cX0_init 4 = .ok (.aload_n 0, 1) := by decide +kernel
theorem dX0_init_5 : decode cX0_init 5 = .ok (.new 9, 3) := by decide +kernel
theorem dX0_init_8 : decode cX0_init 8 = .ok (.dup, 1) := by decide +kernel
theorem dX0_init_9 : decode cX0_init 9 = .ok (.invokespecial 11, 3) := by decide +kernel
theorem dX0_init_12 : decode cX0_init 12 = .ok (.putfield 12, 3) := by decide +kernel
theorem dX0_init_15 : decode cX0_init 15 = .ok (.aload_n 0, 1) := by decide +kernel
theorem dX0_init_16 : decode cX0_init 16 = .ok (.iconst 0, 1) := by decide +kernel
theorem dX0_init_17 : decode cX0_init 17 = .ok (.putfield 18, 3) := by decide +kernel
theorem dX0_init_20 : decode cX0_init 20 = .ok (.aload_n 0, 1) := by decide +kernel
theorem dX0_init_21 : decode cX0_init 21 = .ok (.iconst 0, 1) := by decide +kernel
theorem dX0_init_22 : decode cX0_init 22 = .ok (.putfield 22, 3) := by decide +kernel
theorem dX0_init_25 : decode cX0_init 25 = .ok (.aload_n 0, 1) := by decide +kernel
theorem dX0_init_26 : decode cX0_init 26 = .ok (.aload_n 1, 1) := by decide +kernel
theorem dX0_init_27 : decode cX0_init 27 = .ok (.putfield 26, 3) := by decide +kernel
theorem dX0_init_30 : decode cX0_init 30 = .ok (.aload_n 0, 1) := by decide +kernel
theorem dX0_init_31 : decode cX0_init 31 = .ok (.iload_n 2, 1) := by decide +kernel
theorem dX0_init_32 : decode cX0_init 32 = .ok (.putfield 30, 3) := by decide +kernel
theorem dX0_init_35 : decode cX0_init 35 = .ok (.aload_n 0, 1) := by decide +kernel
theorem dX0_init_36 : decode cX0_init 36 = .ok (.iload_n 3, 1) := by decide +kernel
theorem dX0_init_37 : decode cX0_init 37 = .ok (.putfield 33, 3) := by decide +kernel
theorem dX0_init_40 : decode cX0_init 40 = .ok (.return_, 1) := by decide +kernel
theorem dX0_look_0 : decode cX0_look 0 = .ok (.aload_n 0, 1) := by decide +kernel
theorem dX0_look_1 : decode cX0_look 1 = .ok (.getfield 33, 3) := by decide +kernel
theorem dX0_look_4 : decode cX0_look 4 = .ok (.sipush 128, 3) := by decide +kernel
theorem dX0_look_7 : decode cX0_look 7 = .ok (.imul, 1) := by decide +kernel
theorem dX0_look_8 : decode cX0_look 8 = .ok (.istore_n 1, 1) := by decide +kernel
theorem dX0_look_9 : decode cX0_look 9 = .ok (.aload_n 0, 1) := by decide +kernel
theorem dX0_look_10 : decode cX0_look 10 = .ok (.getfield 26, 3) := by decide +kernel
theorem dX0_look_13 : decode cX0_look 13 = .ok (.getfield 36, 3) := by decide +kernel
theorem dX0_look_16 : decode cX0_look 16 = .ok (.iload_n 1, 1) := by decide +kernel
theorem dX0_look_17 : decode cX0_look 17 = .ok (.iconst 4, 1) := by decide +kernel
theorem dX0_look_18 : decode cX0_look 18 = .ok (.invokevirtual 42, 3) := by decide +kernel
theorem dX0_look_21 : decode cX0_look 21 = .ok (.lstore_n 2, 1) := by decide +kernel
theorem dX0_look_22 : decode cX0_look 22 = .ok (.aload_n 0, 1) := by decide +kernel
theorem dX0_look_23 : decode cX0_look 23 = .ok (.getfield 26, 3) := by decide +kernel
theorem dX0_look_26 : decode cX0_look 26 = .ok (.getfield 36, 3) := by decide +kernel
theorem dX0_look_29 : decode cX0_look 29 = .ok (.iload_n 1, 1) := by decide +kernel
theorem dX0_look_30 : decode cX0_look 30 = .ok (.iconst 4, 1) := by decide +kernel
theorem dX0_look_31 : decode cX0_look 31 = .ok (.iadd, 1) := by decide +kernel
theorem dX0_look_32 : decode cX0_look 32 = .ok (.iconst 2, 1) := by decide +kernel
theorem dX0_look_33 : decode cX0_look 33 = .ok (.invokevirtual 42, 3) := by decide +kernel
theorem dX0_look_36 : decode cX0_look 36 = .ok (.l2i, 1) := by decide +kernel
theorem dX0_look_37 : decode cX0_look 37 = .ok (.istore 4, 2) := by decide +kernel
theorem dX0_look_39 : decode cX0_look 39 = .ok (.aload_n 0, 1) := by decide +kernel
theorem dX0_look_40 : decode cX0_look 40 = .ok (.iconst 0, 1) := by decide +kernel
theorem dX0_look_41 : decode cX0_look 41 = .ok (.putfield 18, 3) := by decide +kernel
theorem dX0_look_44 : decode cX0_look 44 = .ok (.lload_n 2, 1) := by decide +kernel
theorem dX0_look_45 : decode cX0_look 45 = .ok (.lconst 1, 1) := by decide +kernel
theorem dX0_look_46 : decode cX0_look 46 = .ok (.lcmp, 1) := by decide +kernel
theorem dX0_look_47 : decode cX0_look 47 = .ok (.ifCond .lt 18, 3) := by decide +kernel
theorem dX0_look_50 : decode cX0_look 50 = .ok (.lload_n 2, 1) := by decide +kernel
theorem dX0_look_51 : decode cX0_look 51 = .ok (.ldc2_w 47, 3) := by decide +kernel
theorem dX0_look_54 : decode cX0_look 54 = .ok (.lcmp, 1) := by decide +kernel
theorem dX0_look_55 : decode cX0_look 55 = .ok (.ifCond .gt 10, 3) := by decide +kernel
theorem dX0_look_58 : decode cX0_look 58 = .ok (.iload 4, 2) := by decide +kernel
theorem dX0_look_60 : decode cX0_look 60 = .ok (.bipush 118, 2) := by decide +kernel
theorem dX0_look_62 : decode cX0_look 62 = .ok (.if_icmp .le 4, 3) := by decide +kernel
theorem dX0_look_65 : decode cX0_look 65 = .ok (.return_, 1) := by decide +kernel
theorem dX0_look_66 : decode cX0_look 66 = .ok (.aload_n 0, 1) := by decide +kernel
theorem dX0_look_67 : decode cX0_look 67 = .ok (.getfield 26, 3) := by decide +kernel
theorem dX0_look_70 : decode cX0_look 70 = .ok (.getfield 36, 3) := by decide +kernel
theorem dX0_look_73 : decode cX0_look 73 = .ok (.iload_n 1, 1) := by decide +kernel
theorem dX0_look_74 : decode cX0_look 74 = .ok (.bipush 6, 2) := by decide +kernel
theorem dX0_look_76 : decode cX0_look 76 = .ok (.iload 4, 2) := by decide +kernel
theorem dX0_look_78 : decode cX0_look 78 = .ok (.iadd, 1) := by decide +kernel
theorem dX0_look_79 : decode cX0_look 79 = .ok (.invokevirtual 49, 3) := by decide +kernel
theorem dX0_look_82 : decode cX0_look 82 = .ok (.invokestatic 52, 3) := by decide +kernel
theorem dX0_look_85 : decode cX0_look 85 = .ok (.lstore 5, 2) := by decide +kernel
theorem dX0_look_87 : decode cX0_look 87 = .ok (.lload 5, 2) := by decide +kernel
theorem dX0_look_89 : decode cX0_look 89 = .ok (.aload_n 0, 1) := by decide +kernel
theorem dX0_look_90 : decode cX0_look 90 = .ok (.getfield 26, 3) := by decide +kernel
theorem dX0_look_93 : decode cX0_look 93 = .ok (.getfield 36, 3) := by decide +kernel
theorem dX0_look_96 : decode cX0_look 96 = .ok (.iload_n 1, 1) := by decide +kernel
theorem dX0_look_97 : decode cX0_look 97 = .ok (.bipush 6, 2) := by decide +kernel
theorem dX0_look_99 : decode cX0_look 99 = .ok (.iadd, 1) := by decide +kernel
theorem dX0_look_100 : decode cX0_look 100 = .ok (.iload 4, 2) := by decide +kernel
theorem dX0_look_102 : decode cX0_look 102 = .ok (.iadd, 1) := by decide +kernel
theorem dX0_look_103 : decode cX0_look 103 = .ok (.iconst 4, 1) := by decide +kernel
theorem dX0_look_104 : decode cX0_look 104 = .ok (.invokevirtual 42, 3) := by decide +kernel
theorem dX0_look_107 : decode cX0_look 107 = .ok (.lcmp, 1) := by decide +kernel
theorem dX0_look_108 : decode cX0_look 108 = .ok (.ifCond .eq 4, 3) := by decide +kernel
theorem dX0_look_111 : decode cX0_look 111 = .ok (.return_, 1) := by decide +kernel
theorem dX0_look_112 : decode cX0_look 112 = .ok (.aload_n 0, 1) := by decide +kernel
theorem dX0_look_113 : decode cX0_look 113 = .ok (.iload 4, 2) := by decide +kernel
theorem dX0_look_115 : decode cX0_look 115 = .ok (.ifCond .le 7, 3) := by decide +kernel
theorem dX0_look_118 : decode cX0_look 118 = .ok (.iconst 1, 1) := by decide +kernel
theorem dX0_look_119 : decode cX0_look 119 = .ok (.goto 4, 3) := by decide +kernel
theorem dX0_look_122 : decode cX0_look 122 = .ok (.iconst 0, 1) := by decide +kernel
theorem dX0_look_123 : decode cX0_look 123 = .ok (.putfield 22, 3) := by decide +kernel
theorem dX0_look_126 : decode cX0_look 126 = .ok (.aload_n 0, 1) := by decide +kernel
theorem dX0_look_127 : decode cX0_look 127 = .ok (.getfield 22, 3) := by decide +kernel
theorem dX0_look_130 : decode cX0_look 130 = .ok (.ifCond .eq 48, 3) := by decide +kernel
theorem dX0_look_133 : decode cX0_look 133 = .ok (.aload_n 0, 1) := by decide +kernel
theorem dX0_look_134 : decode cX0_look 134 = .ok (.getfield 12, 3) := by decide +kernel
theorem dX0_look_137 : decode cX0_look 137 = .ok (.aload_n 0, 1) := by decide +kernel
theorem dX0_look_138 : decode cX0_look 138 = .ok (.getfield 26, 3) := by decide +kernel
theorem dX0_look_141 : decode cX0_look 141 = .ok (.getfield 36, 3) := by decide +kernel
theorem dX0_look_144 : decode cX0_look 144 = .ok (.iload_n 1, 1) := by decide +kernel
theorem dX0_look_145 : decode cX0_look 145 = .ok (.bipush 6, 2) := by decide +kernel
theorem dX0_look_147 : decode cX0_look 147 = .ok (.iadd, 1) := by decide +kernel
theorem dX0_look_148 : decode cX0_look 148 = .ok (.iload 4, 2) := by decide +kernel
theorem dX0_look_150 : decode cX0_look 150 = .ok (.invokevirtual 56, 3) := by decide +kernel
theorem dX0_look_153 : decode cX0_look 153 = .ok (.ifCond .eq 21, 3) := by decide +kernel
theorem dX0_look_156 : decode cX0_look 156 = .ok (.aload_n 0, 1) := by decide +kernel
theorem dX0_look_157 : decode cX0_look 157 = .ok (.getfield 12, 3) := by decide +kernel
theorem dX0_look_160 : decode cX0_look 160 = .ok (.getfield 60, 3) := by decide +kernel
theorem dX0_look_163 : decode cX0_look 163 = .ok (.aload_n 0, 1) := by decide +kernel
theorem dX0_look_164 : decode cX0_look 164 = .ok (.getfield 30, 3) := by decide +kernel
theorem dX0_look_167 : decode cX0_look 167 = .ok (.if_icmp .ne 7, 3) := by decide +kernel
theorem dX0_look_170 : decode cX0_look 170 = .ok (.iconst 1, 1) := by decide +kernel
theorem dX0_look_171 : decode cX0_look 171 = .ok (.goto 19, 3) := by decide +kernel
theorem dX0_look_174 : decode cX0_look 174 = .ok (.iconst 0, 1) := by decide +kernel
theorem dX0_look_175 : decode cX0_look 175 = .ok (.goto 15, 3) := by decide +kernel
theorem dX0_look_178 : decode cX0_look 178 = .ok (.aload_n 0, 1) := by decide +kernel
theorem dX0_look_179 : decode cX0_look 179 = .ok (.getfield 30, 3) := by decide +kernel
theorem dX0_look_182 : decode cX0_look 182 = .ok (.ifCond .eq 7, 3) := by decide +kernel
theorem dX0_look_185 : decode cX0_look 185 = .ok (.iconst 1, 1) := by decide +kernel
theorem dX0_look_186 : decode cX0_look 186 = .ok (.goto 4, 3) := by decide +kernel
theorem dX0_look_189 : decode cX0_look 189 = .ok (.iconst 0, 1) := by decide +kernel
theorem dX0_look_190 : decode cX0_look 190 = .ok (.istore 7, 2) := by decide +kernel
theorem dX0_look_192 : decode cX0_look 192 = .ok (.iload 7, 2) := by decide +kernel
theorem dX0_look_194 : decode cX0_look 194 = .ok (.ifCond .eq 9, 3) := by decide +kernel
theorem dX0_look_197 : decode cX0_look 197 = .ok (.aload_n 0, 1) := by decide +kernel
theorem dX0_look_198 : decode cX0_look 198 = .ok (.lload_n 2, 1) := by decide +kernel
theorem dX0_look_199 : decode cX0_look 199 = .ok (.l2i, 1) := by decide +kernel
theorem dX0_look_200 : decode cX0_look 200 = .ok (.putfield 18, 3) := by decide +kernel
theorem dX0_look_203 : decode cX0_look 203 = .ok (.return_, 1) := by decide +kernel
theorem dX1_init_0 : decode cX1_init 0 = .ok (.aload_n 0, 1) := by decide +kernel
theorem dX1_init_1 : decode cX1_init 1 = .ok (.invokespecial 3, 3) := by decide +kernel
theorem dX1_init_4 : decode cX1_init 4 = .ok (.aload_n 0, 1) := by decide +kernel
theorem dX1_init_5 : decode cX1_init 5 = .ok (.new 9, 3) := by decide +kernel
theorem dX1_init_8 : decode cX1_init 8 = .ok (.dup, 1) := by decide +kernel
theorem dX1_init_9 : decode cX1_init 9 = .ok (.sipush 3328, 3) := by decide +kernel
theorem dX1_init_12 : decode cX1_init 12 = .ok (.invokespecial 11, 3) := by decide +kernel
theorem dX1_init_15 : decode cX1_init 15 = .ok (.putfield 14, 3) := by decide +kernel
theorem dX1_init_18 : decode cX1_init 18 = .ok (.aload_n 0, 1) := by decide +kernel
theorem dX1_init_19 : decode cX1_init 19 = .ok (.iconst 0, 1) := by decide +kernel
theorem dX1_init_20 : decode cX1_init 20 = .ok (.putfield 20, 3) := by decide +kernel
theorem dX1_init_23 : decode cX1_init 23 = .ok (.aload_n 0, 1) := by decide +kernel
theorem dX1_init_24 : decode cX1_init 24 = .ok (.iconst 0, 1) := by decide +kernel
theorem dX1_init_25 : decode cX1_init 25 = .ok (.putfield 24, 3) := by decide +kernel
theorem dX1_init_28 : decode cX1_init 28 = .ok (.aload_n 0, 1) := by decide +kernel
theorem dX1_init_29 : decode cX1_init 29 = .ok (.iconst (-1), 1) := by decide +kernel
theorem dX1_init_30 : decode cX1_init 30 = .ok (.putfield 27, 3) := by decide +kernel
theorem dX1_init_33 : decode cX1_init 33 = .ok (.aload_n 0, 1) := by decide +kernel
theorem dX1_init_34 : decode cX1_init 34 = .ok (.iconst 0, 1) := by decide +kernel
theorem dX1_init_35 : decode cX1_init 35 = .ok (.putfield 30, 3) := by decide +kernel
theorem dX1_init_38 : decode cX1_init 38 = .ok (.aload_n 0, 1) := by decide +kernel
theorem dX1_init_39 : decode cX1_init 39 = .ok (.iconst 0, 1) := by decide +kernel
theorem dX1_init_40 : decode cX1_init 40 = .ok (.putfield 33, 3) := by decide +kernel
theorem dX1_init_43 : decode cX1_init 43 = .ok (.iconst 0, 1) := by decide +kernel
theorem dX1_init_44 : decode cX1_init 44 = .ok (.istore_n 2, 1) := by decide +kernel
theorem dX1_init_45 : decode cX1_init 45 = .ok (.iload_n 2, 1) := by decide +kernel
theorem dX1_init_46 : decode cX1_init 46 = .ok (.sipush 3328, 3) := by decide +kernel
theorem dX1_init_49 : decode cX1_init 49 = .ok (.if_icmp .ge 19, 3) := by decide +kernel
theorem dX1_init_52 : decode cX1_init 52 = .ok (.aload_n 0, 1) := by decide +kernel
theorem dX1_init_53 : decode cX1_init 53 = .ok (.getfield 14, 3) := by decide +kernel
theorem dX1_init_56 : decode cX1_init 56 = .ok (.sipush 255, 3) := by decide +kernel
theorem dX1_init_59 : decode cX1_init 59 = .ok (.invokevirtual 37, 3) := by decide +kernel
theorem dX1_init_62 : decode cX1_init 62 = .ok (.iinc 2 1, 3) := by decide +kernel
theorem dX1_init_65 : decode cX1_init 65 = .ok (.goto (-20), 3) := by decide +kernel
theorem dX1_init_68 : decode cX1_init 68 = .ok (.iconst 0, 1) := by decide +kernel
theorem dX1_init_69 : decode cX1_init 69 = .ok (.invokestatic 40, 3) := by decide +kernel
theorem dX1_init_72 : decode cX1_init 72 = .ok (.istore_n 2, 1) := by decide +kernel
theorem dX1_init_73 : decode cX1_init 73 = .ok (.iconst 0, 1) := by decide +kernel
theorem dX1_init_74 : decode cX1_init 74 = .ok (.istore_n 3, 1) := by decide +kernel
theorem dX1_init_75 : decode cX1_init 75 = .ok (.iload_n 3, 1) := by decide +kernel
theorem dX1_init_76 : decode cX1_init 76 = .ok (.iload_n 1, 1) := by decide +kernel
theorem dX1_init_77 : decode cX1_init 77 = .ok (.if_icmp .ge 25, 3) := by decide +kernel
theorem dX1_init_80 : decode cX1_init 80 = .ok (.aload_n 0, 1) := by decide +kernel
theorem dX1_init_81 : decode cX1_init 81 = .ok (.getfield 14, 3) := by decide +kernel
theorem dX1_init_84 : decode cX1_init 84 = .ok (.iload_n 2, 1) := by decide +kernel
theorem dX1_init_85 : decode cX1_init 85 = .ok (.iload_n 3, 1) := by decide +kernel
theorem dX1_init_86 : decode cX1_init 86 = .ok (.iadd, 1) := by decide +kernel
theorem dX1_init_87 : decode cX1_init 87 = .ok (.bipush 7, 2) := by decide +kernel
theorem dX1_init_89 : decode cX1_init 89 = .ok (.iload_n 3, 1) := by decide +kernel
theorem dX1_init_90 : decode cX1_init 90 = .ok (.imul, 1) := by decide +kernel
theorem dX1_init_91 : decode cX1_init 91 = .ok (.iconst 3, 1) := by decide +kernel
theorem dX1_init_92 : decode cX1_init 92 = .ok (.iadd, 1) := by decide +kernel
theorem dX1_init_93 : decode cX1_init 93 = .ok (.invokevirtual 44, 3) := by decide +kernel
theorem dX1_init_96 : decode cX1_init 96 = .ok (.iinc 3 1, 3) := by decide +kernel
theorem dX1_init_99 : decode cX1_init 99 = .ok (.goto (-24), 3) := by decide +kernel
theorem dX1_init_102 : decode cX1_init 102 = .ok (.return_, 1) := by decide +kernel
theorem dX1_isDown_0 : decode cX1_isDown 0 = .ok (.aload_n 0, 1) := by decide +kernel
theorem dX1_isDown_1 : decode cX1_isDown 1 = .ok (.getfield 33, 3) := by decide +kernel
theorem dX1_isDown_4 : decode cX1_isDown 4 = .ok (.ireturn, 1) := by decide +kernel
theorem dX1_switchOn_0 : decode cX1_switchOn 0 = .ok (.aload_n 0, 1) := by decide +kernel
theorem dX1_switchOn_1 : decode cX1_switchOn 1 = .ok (.iconst 0, 1) := by decide +kernel
theorem dX1_switchOn_2 : decode cX1_switchOn 2 = .ok (.putfield 33, 3) := by decide +kernel
theorem dX1_switchOn_5 : decode cX1_switchOn 5 = .ok (.return_, 1) := by decide +kernel
theorem dX1_tellCut_0 : decode cX1_tellCut 0 = .ok (.aload_n 0, 1) := by decide +kernel
theorem dX1_tellCut_1 : decode cX1_tellCut 1 = .ok (.iload_n 1, 1) := by decide +kernel
theorem dX1_tellCut_2 : decode cX1_tellCut 2 = .ok (.putfield 27, 3) := by decide +kernel
theorem dX1_tellCut_5 : decode cX1_tellCut 5 = .ok (.aload_n 0, 1) := by decide +kernel
theorem dX1_tellCut_6 : decode cX1_tellCut 6 = .ok (.iload_n 2, 1) := by decide +kernel
theorem dX1_tellCut_7 : decode cX1_tellCut 7 = .ok (.putfield 30, 3) := by decide +kernel
theorem dX1_tellCut_10 : decode cX1_tellCut 10 = .ok (.return_, 1) := by decide +kernel
theorem dX1_slotStart_0 : decode cX1_slotStart 0 = .ok (.bipush 10, 2) := by decide +kernel
theorem dX1_slotStart_2 : decode cX1_slotStart 2 = .ok (.iload_n 0, 1) := by decide +kernel
theorem dX1_slotStart_3 : decode cX1_slotStart 3 = .ok (.bipush 8, 2) := by decide +kernel
theorem dX1_slotStart_5 : decode cX1_slotStart 5 = .ok (.imul, 1) := by decide +kernel
theorem dX1_slotStart_6 : decode cX1_slotStart 6 = .ok (.iadd, 1) := by decide +kernel
theorem dX1_slotStart_7 : decode cX1_slotStart 7 = .ok (.sipush 128, 3) := by decide +kernel
theorem dX1_slotStart_10 : decode cX1_slotStart 10 = .ok (.imul, 1) := by decide +kernel
theorem dX1_slotStart_11 : decode cX1_slotStart 11 = .ok (.ireturn, 1) := by decide +kernel
theorem dX1_write_0 : decode cX1_write 0 = .ok (.aload_n 0, 1) := by decide +kernel
theorem dX1_write_1 : decode cX1_write 1 = .ok (.getfield 33, 3) := by decide +kernel
theorem dX1_write_4 : decode cX1_write 4 = .ok (.ifCond .eq 4, 3) := by decide +kernel
theorem dX1_write_7 : decode cX1_write 7 = .ok (.return_, 1) := by decide +kernel
theorem dX1_write_8 : decode cX1_write 8 = .ok (.aload_n 0, 1) := by decide +kernel
theorem dX1_write_9 : decode cX1_write 9 = .ok (.dup, 1) := by decide +kernel
theorem dX1_write_10 : decode cX1_write 10 = .ok (.getfield 20, 3) := by decide +kernel
theorem dX1_write_13 : decode cX1_write 13 = .ok (.iconst 1, 1) := by decide +kernel
theorem dX1_write_14 : decode cX1_write 14 = .ok (.iadd, 1) := by decide +kernel
theorem dX1_write_15 : decode cX1_write 15 = .ok (.putfield 20, 3) := by decide +kernel
theorem dX1_write_18 : decode cX1_write 18 = .ok (.aload_n 0, 1) := by decide +kernel
theorem dX1_write_19 : decode cX1_write 19 = .ok (.invokevirtual 48, 3) := by decide +kernel
theorem dX1_write_22 : decode cX1_write 22 = .ok (.ifCond .eq 10, 3) := by decide +kernel
theorem dX1_write_25 : decode cX1_write 25 = .ok (.aload_n 0, 1) := by decide +kernel
theorem dX1_write_26 : decode cX1_write 26 = .ok (.iload_n 1, 1) := by decide +kernel
theorem dX1_write_27 : decode cX1_write 27 = .ok (.aload_n 2, 1) := by decide +kernel
theorem dX1_write_28 : decode cX1_write 28 = .ok (.iload_n 3, 1) := by decide +kernel
theorem dX1_write_29 : decode cX1_write 29 = .ok (.invokevirtual 52, 3) := by decide +kernel
theorem dX1_write_32 : decode cX1_write 32 = .ok (.return_, 1) := by decide +kernel
theorem dX1_burn_0 : decode cX1_burn 0 = .ok (.iload_n 1, 1) := by decide +kernel
theorem dX1_burn_1 : decode cX1_burn 1 = .ok (.bipush 32, 2) := by decide +kernel
theorem dX1_burn_3 : decode cX1_burn 3 = .ok (.imul, 1) := by decide +kernel
theorem dX1_burn_4 : decode cX1_burn 4 = .ok (.istore 4, 2) := by decide +kernel
theorem dX1_burn_6 : decode cX1_burn 6 = .ok (.iconst 0, 1) := by decide +kernel
theorem dX1_burn_7 : decode cX1_burn 7 = .ok (.istore 5, 2) := by decide +kernel
theorem dX1_burn_9 : decode cX1_burn 9 = .ok (.iload 5, 2) := by decide +kernel
theorem dX1_burn_11 : decode cX1_burn 11 = .ok (.bipush 32, 2) := by decide +kernel
theorem dX1_burn_13 : decode cX1_burn 13 = .ok (.if_icmp .ge 42, 3) := by decide +kernel
theorem dX1_burn_16 : decode cX1_burn 16 = .ok (.aload_n 0, 1) := by decide +kernel
theorem dX1_burn_17 : decode cX1_burn 17 = .ok (.getfield 14, 3) := by decide +kernel
theorem dX1_burn_20 : decode cX1_burn 20 = .ok (.iload 4, 2) := by decide +kernel
theorem dX1_burn_22 : decode cX1_burn 22 = .ok (.iload 5, 2) := by decide +kernel
theorem dX1_burn_24 : decode cX1_burn 24 = .ok (.iadd, 1) := by decide +kernel
theorem dX1_burn_25 : decode cX1_burn 25 = .ok (.aload_n 0, 1) := by decide +kernel
theorem dX1_burn_26 : decode cX1_burn 26 = .ok (.getfield 14, 3) := by decide +kernel
theorem dX1_burn_29 : decode cX1_burn 29 = .ok (.iload 4, 2) := by decide +kernel
theorem dX1_burn_31 : decode cX1_burn 31 = .ok (.iload 5, 2) := by decide +kernel
theorem dX1_burn_33 : decode cX1_burn 33 = .ok (.iadd, 1) := by decide +kernel
theorem dX1_burn_34 : decode cX1_burn 34 = .ok (.invokevirtual 56, 3) := by decide +kernel
theorem dX1_burn_37 : decode cX1_burn 37 = .ok (.aload_n 2, 1) := by decide +kernel
theorem dX1_burn_38 : decode cX1_burn 38 = .ok (.iload_n 3, 1) := by decide +kernel
theorem dX1_burn_39 : decode cX1_burn 39 = .ok (.iload 5, 2) := by decide +kernel
theorem dX1_burn_41 : decode cX1_burn 41 = .ok (.iadd, 1) := by decide +kernel
theorem dX1_burn_42 : decode cX1_burn 42 = .ok (.invokevirtual 56, 3) := by decide +kernel
theorem dX1_burn_45 : decode cX1_burn 45 = .ok (.iand, 1) := by decide +kernel
theorem dX1_burn_46 : decode cX1_burn 46 = .ok (.invokevirtual 44, 3) := by decide +kernel
theorem dX1_burn_49 : decode cX1_burn 49 = .ok (.iinc 5 1, 3) := by decide +kernel
theorem dX1_burn_52 : decode cX1_burn 52 = .ok (.goto (-43), 3) := by decide +kernel
theorem dX1_burn_55 : decode cX1_burn 55 = .ok (.return_, 1) := by decide +kernel
theorem dX1_erase_0 : decode cX1_erase 0 = .ok (.aload_n 0, 1) := by decide +kernel
theorem dX1_erase_1 : decode cX1_erase 1 = .ok (.getfield 33, 3) := by decide +kernel
theorem dX1_erase_4 : decode cX1_erase 4 = .ok (.ifCond .eq 4, 3) := by decide +kernel
theorem dX1_erase_7 : decode cX1_erase 7 = .ok (.return_, 1) := by decide +kernel
theorem dX1_erase_8 : decode cX1_erase 8 = .ok (.aload_n 0, 1) := by decide +kernel
theorem dX1_erase_9 : decode cX1_erase 9 = .ok (.dup, 1) := by decide +kernel
theorem dX1_erase_10 : decode cX1_erase 10 = .ok (.getfield 24, 3) := by decide +kernel
theorem dX1_erase_13 : decode cX1_erase 13 = .ok (.iconst 1, 1) := by decide +kernel
theorem dX1_erase_14 : decode cX1_erase 14 = .ok (.iadd, 1) := by decide +kernel
theorem dX1_erase_15 : decode cX1_erase 15 = .ok (.putfield 24, 3) := by decide +kernel
theorem dX1_erase_18 : decode cX1_erase 18 = .ok (.aload_n 0, 1) := by decide +kernel
theorem dX1_erase_19 : decode cX1_erase 19 = .ok (.invokevirtual 48, 3) := by decide +kernel
theorem dX1_erase_22 : decode cX1_erase 22 = .ok (.ifCond .eq 7, 3) := by decide +kernel
theorem dX1_erase_25 : decode cX1_erase 25 = .ok (.iconst 0, 1) := by decide +kernel
theorem dX1_erase_26 : decode cX1_erase 26 = .ok (.goto 7, 3) := by decide +kernel
theorem dX1_erase_29 : decode cX1_erase 29 = .ok (.aload_n 0, 1) := by decide +kernel
theorem dX1_erase_30 : decode cX1_erase 30 = .ok (.getfield 30, 3) := by decide +kernel
theorem dX1_erase_33 : decode cX1_erase 33 = .ok (.istore_n 2, 1) := by decide +kernel
theorem dX1_erase_34 : decode cX1_erase 34 = .ok (.iload_n 1, 1) := by decide +kernel
theorem dX1_erase_35 : decode cX1_erase 35 = .ok (.sipush 128, 3) := by decide +kernel
theorem dX1_erase_38 : decode cX1_erase 38 = .ok (.imul, 1) := by decide +kernel
theorem dX1_erase_39 : decode cX1_erase 39 = .ok (.istore_n 3, 1) := by decide +kernel
theorem dX1_erase_40 : decode cX1_erase 40 = .ok (.iconst 0, 1) := by decide +kernel
theorem dX1_erase_41 : decode cX1_erase 41 = .ok (.istore 4, 2) := by decide +kernel
theorem dX1_erase_43 : decode cX1_erase 43 = .ok (.iload 4, 2) := by decide +kernel
theorem dX1_erase_45 : decode cX1_erase 45 = .ok (.sipush 128, 3) := by decide +kernel
theorem dX1_erase_48 : decode cX1_erase 48 = .ok (.if_icmp .ge 53, 3) := by decide +kernel
theorem dX1_erase_51 : decode cX1_erase 51 = .ok (.iload_n 2, 1) := by decide +kernel
theorem dX1_erase_52 : decode cX1_erase 52 = .ok (.bipush 8, 2) := by decide +kernel
theorem dX1_erase_54 : decode cX1_erase 54 = .ok (.iload 4, 2) := by decide +kernel
theorem dX1_erase_56 : decode cX1_erase 56 = .ok (.iconst 4, 1) := by decide +kernel
theorem dX1_erase_57 : decode cX1_erase 57 = .ok (.irem, 1) := by decide +kernel
theorem dX1_erase_58 : decode cX1_erase 58 = .ok (.imul, 1) := by decide +kernel
theorem dX1_erase_59 : decode cX1_erase 59 = .ok (.iushr, 1) := by decide +kernel
theorem dX1_erase_60 : decode cX1_erase 60 = .ok (.sipush 255, 3) := by decide +kernel
theorem dX1_erase_63 : decode cX1_erase 63 = .ok (.iand, 1) := by decide +kernel
theorem dX1_erase_64 : decode cX1_erase 64 = .ok (.istore 5, 2) := by decide +kernel
theorem dX1_erase_66 : decode cX1_erase 66 = .ok (.aload_n 0, 1) := by decide +kernel
theorem dX1_erase_67 : decode cX1_erase 67 = .ok (.getfield 14, 3) := by decide +kernel
theorem dX1_erase_70 : decode cX1_erase 70 = .ok (.iload_n 3, 1) := by decide +kernel
theorem dX1_erase_71 : decode cX1_erase 71 = .ok (.iload 4, 2) := by decide +kernel
theorem dX1_erase_73 : decode cX1_erase 73 = .ok (.iadd, 1) := by decide +kernel
theorem dX1_erase_74 : decode cX1_erase 74 = .ok (.aload_n 0, 1) := by decide +kernel
theorem dX1_erase_75 : decode cX1_erase 75 = .ok (.getfield 14, 3) := by decide +kernel
theorem dX1_erase_78 : decode cX1_erase 78 = .ok (.iload_n 3, 1) := by decide +kernel
theorem dX1_erase_79 : decode cX1_erase 79 = .ok (.iload 4, 2) := by decide +kernel
theorem dX1_erase_81 : decode cX1_erase 81 = .ok (.iadd, 1) := by decide +kernel
theorem dX1_erase_82 : decode cX1_erase 82 = .ok (.invokevirtual 56, 3) := by decide +kernel
theorem dX1_erase_85 : decode cX1_erase 85 = .ok (.sipush 255, 3) := by decide +kernel
theorem dX1_erase_88 : decode cX1_erase 88 = .ok (.iload 5, 2) := by decide +kernel
theorem dX1_erase_90 : decode cX1_erase 90 = .ok (.ixor, 1) := by decide +kernel
theorem dX1_erase_91 : decode cX1_erase 91 = .ok (.ior, 1) := by decide +kernel
theorem dX1_erase_92 : decode cX1_erase 92 = .ok (.invokevirtual 44, 3) := by decide +kernel
theorem dX1_erase_95 : decode cX1_erase 95 = .ok (.iinc 4 1, 3) := by decide +kernel
theorem dX1_erase_98 : decode cX1_erase 98 = .ok (.goto (-55), 3) := by decide +kernel
theorem dX1_erase_101 : decode cX1_erase 101 = .ok (.return_, 1) := by decide +kernel
theorem dX1_powerHolds_0 : decode cX1_powerHolds 0 = .ok (.aload_n 0, 1) := by decide +kernel
theorem dX1_powerHolds_1 : decode cX1_powerHolds 1 = .ok (.getfield 27, 3) := by decide +kernel
theorem dX1_powerHolds_4 : decode cX1_powerHolds 4 = .ok (.ifCond .ge 5, 3) := by decide +kernel
theorem dX1_powerHolds_7 : decode cX1_powerHolds 7 = .ok (.iconst 1, 1) := by decide +kernel
theorem dX1_powerHolds_8 : decode cX1_powerHolds 8 = .ok (.ireturn, 1) := by decide +kernel
theorem dX1_powerHolds_9 : decode cX1_powerHolds 9 = .ok (.aload_n 0, 1) := by decide +kernel
theorem dX1_powerHolds_10 : decode cX1_powerHolds 10 = .ok (.dup, 1) := by decide +kernel
theorem dX1_powerHolds_11 : decode cX1_powerHolds 11 = .ok (.getfield 27, 3) := by decide +kernel
theorem dX1_powerHolds_14 : decode cX1_powerHolds 14 = .ok (.iconst 1, 1) := by decide +kernel
theorem dX1_powerHolds_15 : decode cX1_powerHolds 15 = .ok (.isub, 1) := by decide +kernel
theorem dX1_powerHolds_16 : decode cX1_powerHolds 16 = .ok (.putfield 27, 3) := by decide +kernel
theorem dX1_powerHolds_19 : decode cX1_powerHolds 19 = .ok (.aload_n 0, 1) := by decide +kernel
theorem dX1_powerHolds_20 : decode cX1_powerHolds 20 = .ok (.aload_n 0, 1) := by decide +kernel
theorem dX1_powerHolds_21 : decode cX1_powerHolds 21 = .ok (.getfield 27, 3) := by decide +kernel
theorem dX1_powerHolds_24 : decode cX1_powerHolds 24 = .ok (.ifCond .ge 7, 3) := by decide +kernel
theorem dX1_powerHolds_27 : decode cX1_powerHolds 27 = .ok (.iconst 1, 1) := by decide +kernel
theorem dX1_powerHolds_28 : decode cX1_powerHolds 28 = .ok (.goto 4, 3) := by decide +kernel
theorem dX1_powerHolds_31 : decode cX1_powerHolds 31 = .ok (.iconst 0, 1) := by decide +kernel
theorem dX1_powerHolds_32 : decode cX1_powerHolds 32 = .ok (.putfield 33, 3) := by decide +kernel
theorem dX1_powerHolds_35 : decode cX1_powerHolds 35 = .ok (.aload_n 0, 1) := by decide +kernel
theorem dX1_powerHolds_36 : decode cX1_powerHolds 36 = .ok (.getfield 33, 3) := by decide +kernel
theorem dX1_powerHolds_39 : decode cX1_powerHolds 39 = .ok (.ifCond .ne 7, 3) := by decide +kernel
theorem dX1_powerHolds_42 : decode cX1_powerHolds 42 = .ok (.iconst 1, 1) := by decide +kernel
theorem dX1_powerHolds_43 : decode cX1_powerHolds 43 = .ok (.goto 4, 3) := by decide +kernel
theorem dX1_powerHolds_46 : decode cX1_powerHolds 46 = .ok (.iconst 0, 1) := by decide +kernel
theorem dX1_powerHolds_47 : decode cX1_powerHolds 47 = .ok (.ireturn, 1) := by decide +kernel
theorem dX1_writeAll_0 : decode cX1_writeAll 0 = .ok (.iconst 0, 1) := by decide +kernel
theorem dX1_writeAll_1 : decode cX1_writeAll 1 = .ok (.istore_n 3, 1) := by decide +kernel
theorem dX1_writeAll_2 : decode cX1_writeAll 2 = .ok (.iload_n 3, 1) := by decide +kernel
theorem dX1_writeAll_3 : decode cX1_writeAll 3 = .ok (.aload_n 2, 1) := by decide +kernel
theorem dX1_writeAll_4 : decode cX1_writeAll 4 = .ok (.invokevirtual 59, 3) := by decide +kernel
theorem dX1_writeAll_7 : decode cX1_writeAll 7 = .ok (.if_icmp .ge 21, 3) := by decide +kernel
theorem dX1_writeAll_10 : decode cX1_writeAll 10 = .ok (.aload_n 0, 1) := by decide +kernel
theorem dX1_writeAll_11 : decode cX1_writeAll 11 = .ok (.iload_n 1, 1) := by decide +kernel
theorem dX1_writeAll_12 : decode cX1_writeAll 12 = .ok (.iload_n 3, 1) := by decide +kernel
theorem dX1_writeAll_13 : decode cX1_writeAll 13 = .ok (.bipush 32, 2) := by decide +kernel
theorem dX1_writeAll_15 : decode cX1_writeAll 15 = .ok (.idiv, 1) := by decide +kernel
theorem dX1_writeAll_16 : decode cX1_writeAll 16 = .ok (.iadd, 1) := by decide +kernel
theorem dX1_writeAll_17 : decode cX1_writeAll 17 = .ok (.aload_n 2, 1) := by decide +kernel
theorem dX1_writeAll_18 : decode cX1_writeAll 18 = .ok (.iload_n 3, 1) := by decide +kernel
theorem dX1_writeAll_19 : decode cX1_writeAll 19 = .ok (.invokevirtual 63, 3) := by decide +kernel
theorem dX1_writeAll_22 : decode cX1_writeAll 22 = .ok (.iinc 3 32, 3) := by decide +kernel
theorem dX1_writeAll_25 : decode cX1_writeAll 25 = .ok (.goto (-23), 3) := by decide +kernel
theorem dX1_writeAll_28 : decode cX1_writeAll 28 = .ok (.return_, 1) := by decide +kernel
theorem dX1_eraseSlot_0 : decode cX1_eraseSlot 0 = .ok (.iconst 0, 1) := by decide +kernel
theorem dX1_eraseSlot_1 : decode cX1_eraseSlot 1 = .ok (.istore_n 2, 1) := by decide +kernel
theorem dX1_eraseSlot_2 : decode cX1_eraseSlot 2 = .ok (.iload_n 2, 1) := by decide +kernel
theorem dX1_eraseSlot_3 : decode cX1_eraseSlot 3 = .ok (.bipush 8, 2) := by decide +kernel
theorem dX1_eraseSlot_5 : decode cX1_eraseSlot 5 = .ok (.if_icmp .ge 22, 3) := by decide +kernel
theorem dX1_eraseSlot_8 : decode cX1_eraseSlot 8 = .ok (.aload_n 0, 1) := by decide +kernel
theorem dX1_eraseSlot_9 : decode cX1_eraseSlot 9 = .ok (.bipush 10, 2) := by decide +kernel
theorem dX1_eraseSlot_11 : decode cX1_eraseSlot 11 = .ok (.iload_n 1, 1) := by decide +kernel
theorem dX1_eraseSlot_12 : decode cX1_eraseSlot 12 = .ok (.bipush 8, 2) := by decide +kernel
theorem dX1_eraseSlot_14 : decode cX1_eraseSlot 14 = .ok (.imul, 1) := by decide +kernel
theorem dX1_eraseSlot_15 : decode cX1_eraseSlot 15 = .ok (.iadd, 1) := by decide +kernel
theorem dX1_eraseSlot_16 : decode cX1_eraseSlot 16 = .ok (.iload_n 2, 1) := by decide +kernel
theorem dX1_eraseSlot_17 : decode cX1_eraseSlot 17 = .ok (.iadd, 1) := by decide +kernel
theorem dX1_eraseSlot_18 : decode cX1_eraseSlot 18 = .ok (.invokevirtual 66, 3) := by decide +kernel
theorem dX1_eraseSlot_21 : decode cX1_eraseSlot 21 = .ok (.iinc 2 1, 3) := by decide +kernel
theorem dX1_eraseSlot_24 : decode cX1_eraseSlot 24 = .ok (.goto (-22), 3) := by decide +kernel
theorem dX1_eraseSlot_27 : decode cX1_eraseSlot 27 = .ok (.return_, 1) := by decide +kernel
theorem dX1_isBlank_0 : decode cX1_isBlank 0 = .ok (.iconst 0, 1) := by decide +kernel
theorem dX1_isBlank_1 : decode cX1_isBlank 1 = .ok (.istore_n 2, 1) := by decide +kernel
theorem dX1_isBlank_2 : decode cX1_isBlank 2 = .ok (.iload_n 2, 1) := by decide +kernel
theorem dX1_isBlank_3 : decode cX1_isBlank 3 = .ok (.bipush 32, 2) := by decide +kernel
theorem dX1_isBlank_5 : decode cX1_isBlank 5 = .ok (.if_icmp .ge 30, 3) := by decide +kernel
theorem dX1_isBlank_8 : decode cX1_isBlank 8 = .ok (.aload_n 0, 1) := by decide +kernel
theorem dX1_isBlank_9 : decode cX1_isBlank 9 = .ok (.getfield 14, 3) := by decide +kernel
theorem dX1_isBlank_12 : decode cX1_isBlank 12 = .ok (.iload_n 1, 1) := by decide +kernel
theorem dX1_isBlank_13 : decode cX1_isBlank 13 = .ok (.bipush 32, 2) := by decide +kernel
theorem dX1_isBlank_15 : decode cX1_isBlank 15 = .ok (.imul, 1) := by decide +kernel
theorem dX1_isBlank_16 : decode cX1_isBlank 16 = .ok (.iload_n 2, 1) := by decide +kernel
theorem dX1_isBlank_17 : decode cX1_isBlank 17 = .ok (.iadd, 1) := by decide +kernel
theorem dX1_isBlank_18 : decode cX1_isBlank 18 = .ok (.invokevirtual 56, 3) := by decide +kernel
theorem dX1_isBlank_21 : decode cX1_isBlank 21 = .ok (.sipush 255, 3) := by decide +kernel
theorem dX1_isBlank_24 : decode cX1_isBlank 24 = .ok (.if_icmp .eq 5, 3) := by decide +kernel
theorem dX1_isBlank_27 : decode cX1_isBlank 27 = .ok (.iconst 0, 1) := by decide +kernel
theorem dX1_isBlank_28 : decode cX1_isBlank 28 = .ok (.ireturn, 1) := by decide +kernel
theorem dX1_isBlank_29 : decode cX1_isBlank 29 = .ok (.iinc 2 1, 3) := by decide +kernel
theorem dX1_isBlank_32 : decode cX1_isBlank 32 = .ok (.goto (-30), 3) := by decide +kernel
theorem dX1_isBlank_35 : decode cX1_isBlank 35 = .ok (.iconst 1, 1) := by decide +kernel
theorem dX1_isBlank_36 : decode cX1_isBlank 36 = .ok (.ireturn, 1) := by decide +kernel
theorem dX1_programHash_0 : decode cX1_programHash 0 = .ok (.aload_n 0, 1) := by decide +kernel
theorem dX1_programHash_1 : decode cX1_programHash 1 = .ok (.getfield 14, 3) := by decide +kernel
theorem dX1_programHash_4 : decode cX1_programHash 4 = .ok (.iload_n 1, 1) := by decide +kernel
theorem dX1_programHash_5 : decode cX1_programHash 5 = .ok (.invokestatic 40, 3) := by decide +kernel
theorem dX1_programHash_8 : decode cX1_programHash 8 = .ok (.iload_n 2, 1) := by decide +kernel
theorem dX1_programHash_9 : decode cX1_programHash 9 = .ok (.invokevirtual 69, 3) := by decide +kernel
theorem dX1_programHash_12 : decode cX1_programHash 12 = .ok (.invokestatic 73, 3) := by decide +kernel
theorem dX1_programHash_15 : decode cX1_programHash 15 = .ok (.lreturn, 1) := by decide +kernel
theorem dX1_lowest_0 : decode cX1_lowest 0 = .ok (.lload_n 0, 1) := by decide +kernel
theorem dX1_lowest_1 : decode cX1_lowest 1 = .ok (.ldc2_w 77, 3) := by decide +kernel
theorem dX1_lowest_4 : decode cX1_lowest 4 = .ok (.land, 1) := by decide +kernel
theorem dX1_lowest_5 : decode cX1_lowest 5 = .ok (.lreturn, 1) := by decide +kernel
theorem dX1_lastWrittenPiece_0 : decode cX1_lastWrittenPiece 0 = .ok (.iload_n 2, 1) := by decide +kernel
theorem dX1_lastWrittenPiece_1 : decode cX1_lastWrittenPiece 1 = .ok (.iconst 1, 1) := by decide +kernel
theorem dX1_lastWrittenPiece_2 : decode cX1_lastWrittenPiece 2 = .ok (.isub, 1) := by decide +kernel
theorem dX1_lastWrittenPiece_3 : decode cX1_lastWrittenPiece 3 = .ok (.istore_n 3, 1) := by decide +kernel
theorem dX1_lastWrittenPiece_4 : decode cX1_lastWrittenPiece 4 = .ok (.iload_n 3, 1) := by decide +kernel
theorem dX1_lastWrittenPiece_5 : decode cX1_lastWrittenPiece 5 = .ok (.ifCond .lt 33, 3) := by decide +kernel
theorem dX1_lastWrittenPiece_8 : decode cX1_lastWrittenPiece 8 = .ok (.aload_n 0, 1) := by decide +kernel
theorem dX1_lastWrittenPiece_9 : decode cX1_lastWrittenPiece 9 = .ok (.getfield 14, 3) := by decide +kernel
theorem dX1_lastWrittenPiece_12 : decode cX1_lastWrittenPiece 12 = .ok (.iload_n 1, 1) := by decide +kernel
theorem dX1_lastWrittenPiece_13 : decode cX1_lastWrittenPiece 13 = .ok (.invokestatic 40, 3) := by decide +kernel
theorem dX1_lastWrittenPiece_16 : decode cX1_lastWrittenPiece 16 = .ok (.iload_n 3, 1) := by decide +kernel
theorem dX1_lastWrittenPiece_17 : decode cX1_lastWrittenPiece 17 = .ok (.iadd, 1) := by decide +kernel
theorem dX1_lastWrittenPiece_18 : decode cX1_lastWrittenPiece 18 = .ok (.invokevirtual 56, 3) := by decide +kernel
theorem dX1_lastWrittenPiece_21 : decode cX1_lastWrittenPiece 21 = .ok (.sipush 255, 3) := by decide +kernel
theorem dX1_lastWrittenPiece_24 : decode cX1_lastWrittenPiece 24 = .ok (.if_icmp .eq 8, 3) := by decide +kernel
theorem dX1_lastWrittenPiece_27 : decode cX1_lastWrittenPiece 27 = .ok (.iload_n 3, 1) := by decide +kernel
theorem dX1_lastWrittenPiece_28 : decode cX1_lastWrittenPiece 28 = .ok (.bipush 64, 2) := by decide +kernel
theorem dX1_lastWrittenPiece_30 : decode cX1_lastWrittenPiece 30 = .ok (.idiv, 1) := by decide +kernel
theorem dX1_lastWrittenPiece_31 : decode cX1_lastWrittenPiece 31 = .ok (.ireturn, 1) := by decide +kernel
theorem dX1_lastWrittenPiece_32 : decode cX1_lastWrittenPiece 32 = .ok (.iinc 3 (-1), 3) := by decide +kernel
theorem dX1_lastWrittenPiece_35 : decode cX1_lastWrittenPiece 35 = .ok (.goto (-31), 3) := by decide +kernel
theorem dX1_lastWrittenPiece_38 : decode cX1_lastWrittenPiece 38 = .ok (.iconst 0, 1) := by decide +kernel
theorem dX1_lastWrittenPiece_39 : decode cX1_lastWrittenPiece 39 = .ok (.ireturn, 1) := by decide +kernel
theorem dX2_init_0 : decode cX2_init 0 = .ok (.aload_n 0, 1) := by decide +kernel
theorem dX2_init_1 : decode cX2_init 1 = .ok (.invokespecial 3, 3) := by decide +kernel
theorem dX2_init_4 : decode cX2_init 4 = .ok (.aload_n 0, 1) := by decide +kernel
theorem dX2_init_5 : decode cX2_init 5 = .ok (.iconst 0, 1) := by decide +kernel
theorem dX2_init_6 : decode cX2_init 6 = .ok (.putfield 9, 3) := by decide +kernel
theorem dX2_init_9 : decode cX2_init 9 = .ok (.aload_n 0, 1) := by decide +kernel
theorem dX2_init_10 : decode cX2_init 10 = .ok (.iconst 0, 1) := by decide +kernel
theorem dX2_init_11 : decode cX2_init 11 = .ok (.putfield 15, 3) := by decide +kernel
theorem dX2_init_14 : decode cX2_init 14 = .ok (.aload_n 0, 1) := by decide +kernel
theorem dX2_init_15 : decode cX2_init 15 = .ok (.aload_n 1, 1) := by decide +kernel
theorem dX2_init_16 : decode cX2_init 16 = .ok (.putfield 19, 3) := by decide +kernel
theorem dX2_init_19 : decode cX2_init 19 = .ok (.aload_n 0, 1) := by decide +kernel
theorem dX2_init_20 : decode cX2_init 20 = .ok (.aload_n 2, 1) := by decide +kernel
theorem dX2_init_21 : decode cX2_init 21 = .ok (.putfield 23, 3) := by decide +kernel
theorem dX2_init_24 : decode cX2_init 24 = .ok (.return_, 1) := by decide +kernel
theorem dX2_isSettled_0 : decode cX2_isSettled 0 = .ok (.aload_n 0, 1) := by decide +kernel
theorem dX2_isSettled_1 : decode cX2_isSettled 1 = .ok (.getfield 9, 3) := by decide +kernel
theorem dX2_isSettled_4 : decode cX2_isSettled 4 = .ok (.ifCond .le 14, 3) := by decide +kernel
theorem dX2_isSettled_7 : decode cX2_isSettled 7 = .ok (.aload_n 0, 1) := by decide +kernel
theorem dX2_isSettled_8 : decode cX2_isSettled 8 = .ok (.getfield 15, 3) := by decide +kernel
theorem dX2_isSettled_11 : decode cX2_isSettled 11 = .ok (.ifCond .ne 7, 3) := by decide +kernel
theorem dX2_isSettled_14 : decode cX2_isSettled 14 = .ok (.iconst 1, 1) := by decide +kernel
theorem dX2_isSettled_15 : decode cX2_isSettled 15 = .ok (.goto 4, 3) := by decide +kernel
theorem dX2_isSettled_18 : decode cX2_isSettled 18 = .ok (.iconst 0, 1) := by decide +kernel
theorem dX2_isSettled_19 : decode cX2_isSettled 19 = .ok (.ireturn, 1) := by decide +kernel
theorem dX2_halt_0 : decode cX2_halt 0 = .ok (.aload_n 0, 1) := by decide +kernel
theorem dX2_halt_1 : decode cX2_halt 1 = .ok (.iconst 0, 1) := by decide +kernel
theorem dX2_halt_2 : decode cX2_halt 2 = .ok (.putfield 9, 3) := by decide +kernel
theorem dX2_halt_5 : decode cX2_halt 5 = .ok (.aload_n 0, 1) := by decide +kernel
theorem dX2_halt_6 : decode cX2_halt 6 = .ok (.iconst 0, 1) := by decide +kernel
theorem dX2_halt_7 : decode cX2_halt 7 = .ok (.putfield 15, 3) := by decide +kernel
theorem dX2_halt_10 : decode cX2_halt 10 = .ok (.return_, 1) := by decide +kernel
theorem dX2_start_0 : decode cX2_start 0 = .ok (.aload_n 0, 1) := by decide +kernel
theorem dX2_start_1 : decode cX2_start 1 = .ok (.invokevirtual 27, 3) := by decide +kernel
theorem dX2_start_4 : decode cX2_start 4 = .ok (.aload_n 0, 1) := by decide +kernel
theorem dX2_start_5 : decode cX2_start 5 = .ok (.getfield 23, 3) := by decide +kernel
theorem dX2_start_8 : decode cX2_start 8 = .ok (.getfield 30, 3) := by decide +kernel
theorem dX2_start_11 : decode cX2_start 11 = .ok (.iconst 2, 1) := by decide +kernel
theorem dX2_start_12 : decode cX2_start 12 = .ok (.if_icmp .ne 8, 3) := by decide +kernel
theorem dX2_start_15 : decode cX2_start 15 = .ok (.aload_n 0, 1) := by decide +kernel
theorem dX2_start_16 : decode cX2_start 16 = .ok (.invokevirtual 35, 3) := by decide +kernel
theorem dX2_start_19 : decode cX2_start 19 = .ok (.ireturn, 1) := by decide +kernel
theorem dX2_start_20 : decode cX2_start 20 = .ok (.aload_n 0, 1) := by decide +kernel
theorem dX2_start_21 : decode cX2_start 21 = .ok (.getfield 23, 3) := by decide +kernel
theorem dX2_start_24 : decode cX2_start 24 = .ok (.getfield 30, 3) := by decide +kernel
theorem dX2_start_27 : decode cX2_start 27 = .ok (.iconst 3, 1) := by decide +kernel
theorem dX2_start_28 : decode cX2_start 28 = .ok (.if_icmp .ne 17, 3) := by decide +kernel
theorem dX2_start_31 : decode cX2_start 31 = .ok (.aload_n 0, 1) := by decide +kernel
theorem dX2_start_32 : decode cX2_start 32 = .ok (.getfield 23, 3) := by decide +kernel
theorem dX2_start_35 : decode cX2_start 35 = .ok (.invokevirtual 39, 3) := by decide +kernel
theorem dX2_start_38 : decode cX2_start 38 = .ok (.aload_n 0, 1) := by decide +kernel
theorem dX2_start_39 : decode cX2_start 39 = .ok (.getfield 23, 3) := by decide +kernel
theorem dX2_start_42 : decode cX2_start 42 = .ok (.invokevirtual 42, 3) := by decide +kernel
theorem dX2_start_45 : decode cX2_start 45 = .ok (.aload_n 0, 1) := by decide +kernel
theorem dX2_start_46 : decode cX2_start 46 = .ok (.invokevirtual 45, 3) := by decide +kernel
theorem dX2_start_49 : decode cX2_start 49 = .ok (.ireturn, 1) := by decide +kernel
theorem dX2_startTrial_0 : decode cX2_startTrial 0 = .ok (.aload_n 0, 1) := by decide +kernel
theorem dX2_startTrial_1 : decode cX2_startTrial 1 = .ok (.getfield 23, 3) := by decide +kernel
theorem dX2_startTrial_4 : decode cX2_startTrial 4 = .ok (.iconst 3, 1) := by decide +kernel
theorem dX2_startTrial_5 : decode cX2_startTrial 5 = .ok (.putfield 30, 3) := by decide +kernel
theorem dX2_startTrial_8 : decode cX2_startTrial 8 = .ok (.aload_n 0, 1) := by decide +kernel
theorem dX2_startTrial_9 : decode cX2_startTrial 9 = .ok (.getfield 23, 3) := by decide +kernel
theorem dX2_startTrial_12 : decode cX2_startTrial 12 = .ok (.invokevirtual 42, 3) := by decide +kernel
theorem dX2_startTrial_15 : decode cX2_startTrial 15 = .ok (.aload_n 0, 1) := by decide +kernel
theorem dX2_startTrial_16 : decode cX2_startTrial 16 = .ok (.getfield 19, 3) := by decide +kernel
theorem dX2_startTrial_19 : decode cX2_startTrial 19 = .ok (.invokevirtual 48, 3) := by decide +kernel
theorem dX2_startTrial_22 : decode cX2_startTrial 22 = .ok (.ifCond .eq 6, 3) := by decide +kernel
theorem dX2_startTrial_25 : decode cX2_startTrial 25 = .ok (.bipush (-3), 2) := by decide +kernel
theorem dX2_startTrial_27 : decode cX2_startTrial 27 = .ok (.ireturn, 1) := by decide +kernel
theorem dX2_startTrial_28 : decode cX2_startTrial 28 = .ok (.aload_n 0, 1) := by decide +kernel
theorem dX2_startTrial_29 : decode cX2_startTrial 29 = .ok (.getfield 19, 3) := by decide +kernel
theorem dX2_startTrial_32 : decode cX2_startTrial 32 = .ok (.aload_n 0, 1) := by decide +kernel
theorem dX2_startTrial_33 : decode cX2_startTrial 33 = .ok (.getfield 23, 3) := by decide +kernel
theorem dX2_startTrial_36 : decode cX2_startTrial 36 = .ok (.invokevirtual 54, 3) := by decide +kernel
theorem dX2_startTrial_39 : decode cX2_startTrial 39 = .ok (.aload_n 0, 1) := by decide +kernel
theorem dX2_startTrial_40 : decode cX2_startTrial 40 = .ok (.getfield 23, 3) := by decide +kernel
theorem dX2_startTrial_43 : decode cX2_startTrial 43 = .ok (.getfield 57, 3) := by decide +kernel
theorem dX2_startTrial_46 : decode cX2_startTrial 46 = .ok (.invokevirtual 60, 3) := by decide +kernel
theorem dX2_startTrial_49 : decode cX2_startTrial 49 = .ok (.aload_n 0, 1) := by decide +kernel
theorem dX2_startTrial_50 : decode cX2_startTrial 50 = .ok (.getfield 23, 3) := by decide +kernel
theorem dX2_startTrial_53 : decode cX2_startTrial 53 = .ok (.getfield 64, 3) := by decide +kernel
theorem dX2_startTrial_56 : decode cX2_startTrial 56 = .ok (.lcmp, 1) := by decide +kernel
theorem dX2_startTrial_57 : decode cX2_startTrial 57 = .ok (.ifCond .ne 24, 3) := by decide +kernel
theorem dX2_startTrial_60 : decode cX2_startTrial 60 = .ok (.aload_n 0, 1) := by decide +kernel
theorem dX2_startTrial_61 : decode cX2_startTrial 61 = .ok (.aload_n 0, 1) := by decide +kernel
theorem dX2_startTrial_62 : decode cX2_startTrial 62 = .ok (.getfield 23, 3) := by decide +kernel
theorem dX2_startTrial_65 : decode cX2_startTrial 65 = .ok (.getfield 68, 3) := by decide +kernel
theorem dX2_startTrial_68 : decode cX2_startTrial 68 = .ok (.putfield 9, 3) := by decide +kernel
theorem dX2_startTrial_71 : decode cX2_startTrial 71 = .ok (.aload_n 0, 1) := by decide +kernel
theorem dX2_startTrial_72 : decode cX2_startTrial 72 = .ok (.iconst 1, 1) := by decide +kernel
theorem dX2_startTrial_73 : decode cX2_startTrial 73 = .ok (.putfield 15, 3) := by decide +kernel
theorem dX2_startTrial_76 : decode cX2_startTrial 76 = .ok (.aload_n 0, 1) := by decide +kernel
theorem dX2_startTrial_77 : decode cX2_startTrial 77 = .ok (.getfield 9, 3) := by decide +kernel
theorem dX2_startTrial_80 : decode cX2_startTrial 80 = .ok (.ireturn, 1) := by decide +kernel
theorem dX2_startTrial_81 : decode cX2_startTrial 81 = .ok (.aload_n 0, 1) := by decide +kernel
theorem dX2_startTrial_82 : decode cX2_startTrial 82 = .ok (.getfield 23, 3) := by decide +kernel
theorem dX2_startTrial_85 : decode cX2_startTrial 85 = .ok (.invokevirtual 39, 3) := by decide +kernel
theorem dX2_startTrial_88 : decode cX2_startTrial 88 = .ok (.aload_n 0, 1) := by decide +kernel
theorem dX2_startTrial_89 : decode cX2_startTrial 89 = .ok (.getfield 23, 3) := by decide +kernel
theorem dX2_startTrial_92 : decode cX2_startTrial 92 = .ok (.invokevirtual 42, 3) := by decide +kernel
theorem dX2_startTrial_95 : decode cX2_startTrial 95 = .ok (.aload_n 0, 1) := by decide +kernel
theorem dX2_startTrial_96 : decode cX2_startTrial 96 = .ok (.invokevirtual 45, 3) := by decide +kernel
theorem dX2_startTrial_99 : decode cX2_startTrial 99 = .ok (.ireturn, 1) := by decide +kernel
theorem dX2_startConfirmed_0 : decode cX2_startConfirmed 0 = .ok (.aload_n 0, 1) := by decide +kernel
theorem dX2_startConfirmed_1 : decode cX2_startConfirmed 1 = .ok (.getfield 19, 3) := by decide +kernel
theorem dX2_startConfirmed_4 : decode cX2_startConfirmed 4 = .ok (.invokevirtual 48, 3) := by decide +kernel
theorem dX2_startConfirmed_7 : decode cX2_startConfirmed 7 = .ok (.ifCond .eq 6, 3) := by decide +kernel
theorem dX2_startConfirmed_10 : decode cX2_startConfirmed 10 = .ok (.bipush (-3), 2) := by decide +kernel
theorem dX2_startConfirmed_12 : decode cX2_startConfirmed 12 = .ok (.ireturn, 1) := by decide +kernel
theorem dX2_startConfirmed_13 : decode cX2_startConfirmed 13 = .ok (.aload_n 0, 1) := by decide +kernel
theorem dX2_startConfirmed_14 : decode cX2_startConfirmed 14 = .ok (.getfield 19, 3) := by decide +kernel
theorem dX2_startConfirmed_17 : decode cX2_startConfirmed 17 = .ok (.aload_n 0, 1) := by decide +kernel
theorem dX2_startConfirmed_18 : decode cX2_startConfirmed 18 = .ok (.getfield 23, 3) := by decide +kernel
theorem dX2_startConfirmed_21 : decode cX2_startConfirmed 21 = .ok (.getfield 71, 3) := by decide +kernel
theorem dX2_startConfirmed_24 : decode cX2_startConfirmed 24 = .ok (.aload_n 0, 1) := by decide +kernel
theorem dX2_startConfirmed_25 : decode cX2_startConfirmed 25 = .ok (.getfield 23, 3) := by decide +kernel
theorem dX2_startConfirmed_28 : decode cX2_startConfirmed 28 = .ok (.getfield 74, 3) := by decide +kernel
theorem dX2_startConfirmed_31 : decode cX2_startConfirmed 31 = .ok (.invokevirtual 60, 3) := by decide +kernel
theorem dX2_startConfirmed_34 : decode cX2_startConfirmed 34 = .ok (.aload_n 0, 1) := by decide +kernel
theorem dX2_startConfirmed_35 : decode cX2_startConfirmed 35 = .ok (.getfield 23, 3) := by decide +kernel
theorem dX2_startConfirmed_38 : decode cX2_startConfirmed 38 = .ok (.getfield 77, 3) := by decide +kernel
theorem dX2_startConfirmed_41 : decode cX2_startConfirmed 41 = .ok (.lcmp, 1) := by decide +kernel
theorem dX2_startConfirmed_42 : decode cX2_startConfirmed 42 = .ok (.ifCond .eq 6, 3) := by decide +kernel
theorem dX2_startConfirmed_45 : decode cX2_startConfirmed 45 = .ok (.bipush (-2), 2) := by decide +kernel
theorem dX2_startConfirmed_47 : decode cX2_startConfirmed 47 = .ok (.ireturn, 1) := by decide +kernel
theorem dX2_startConfirmed_48 : decode cX2_startConfirmed 48 = .ok (.aload_n 0, 1) := by decide +kernel
theorem dX2_startConfirmed_49 : decode cX2_startConfirmed 49 = .ok (.aload_n 0, 1) := by decide +kernel
theorem dX2_startConfirmed_50 : decode cX2_startConfirmed 50 = .ok (.getfield 23, 3) := by decide +kernel
theorem dX2_startConfirmed_53 : decode cX2_startConfirmed 53 = .ok (.getfield 80, 3) := by decide +kernel
theorem dX2_startConfirmed_56 : decode cX2_startConfirmed 56 = .ok (.putfield 9, 3) := by decide +kernel
theorem dX2_startConfirmed_59 : decode cX2_startConfirmed 59 = .ok (.aload_n 0, 1) := by decide +kernel
theorem dX2_startConfirmed_60 : decode cX2_startConfirmed 60 = .ok (.getfield 9, 3) := by decide +kernel
theorem dX2_startConfirmed_63 : decode cX2_startConfirmed 63 = .ok (.ireturn, 1) := by decide +kernel
theorem dX2_confirm_0 : decode cX2_confirm 0 = .ok (.aload_n 0, 1) := by decide +kernel
theorem dX2_confirm_1 : decode cX2_confirm 1 = .ok (.getfield 23, 3) := by decide +kernel
theorem dX2_confirm_4 : decode cX2_confirm 4 = .ok (.invokevirtual 83, 3) := by decide +kernel
theorem dX2_confirm_7 : decode cX2_confirm 7 = .ok (.aload_n 0, 1) := by decide +kernel
theorem dX2_confirm_8 : decode cX2_confirm 8 = .ok (.getfield 23, 3) := by decide +kernel
theorem dX2_confirm_11 : decode cX2_confirm 11 = .ok (.invokevirtual 42, 3) := by decide +kernel
theorem dX2_confirm_14 : decode cX2_confirm 14 = .ok (.aload_n 0, 1) := by decide +kernel
theorem dX2_confirm_15 : decode cX2_confirm 15 = .ok (.iconst 0, 1) := by decide +kernel
theorem dX2_confirm_16 : decode cX2_confirm 16 = .ok (.putfield 15, 3) := by decide +kernel
theorem dX2_confirm_19 : decode cX2_confirm 19 = .ok (.aload_n 0, 1) := by decide +kernel
theorem dX2_confirm_20 : decode cX2_confirm 20 = .ok (.getfield 9, 3) := by decide +kernel
theorem dX2_confirm_23 : decode cX2_confirm 23 = .ok (.ireturn, 1) := by decide +kernel
theorem dX2_reject_0 : decode cX2_reject 0 = .ok (.aload_n 0, 1) := by decide +kernel
theorem dX2_reject_1 : decode cX2_reject 1 = .ok (.getfield 23, 3) := by decide +kernel
theorem dX2_reject_4 : decode cX2_reject 4 = .ok (.invokevirtual 39, 3) := by decide +kernel
theorem dX2_reject_7 : decode cX2_reject 7 = .ok (.aload_n 0, 1) := by decide +kernel
theorem dX2_reject_8 : decode cX2_reject 8 = .ok (.getfield 23, 3) := by decide +kernel
theorem dX2_reject_11 : decode cX2_reject 11 = .ok (.invokevirtual 42, 3) := by decide +kernel
theorem dX2_reject_14 : decode cX2_reject 14 = .ok (.aload_n 0, 1) := by decide +kernel
theorem dX2_reject_15 : decode cX2_reject 15 = .ok (.invokevirtual 27, 3) := by decide +kernel
theorem dX2_reject_18 : decode cX2_reject 18 = .ok (.aload_n 0, 1) := by decide +kernel
theorem dX2_reject_19 : decode cX2_reject 19 = .ok (.getfield 9, 3) := by decide +kernel
theorem dX2_reject_22 : decode cX2_reject 22 = .ok (.ireturn, 1) := by decide +kernel
theorem dX3_init_0 : decode cX3_init 0 = .ok (.aload_n 0, 1) := by decide +kernel
theorem dX3_init_1 : decode cX3_init 1 = .ok (.invokespecial 3, 3) := by decide +kernel
theorem dX3_init_4 : decode cX3_init 4 = .ok (.aload_n 0, 1) := by decide +kernel
theorem dX3_init_5 : decode cX3_init 5 = .ok (.getstatic 9, 3) := by decide +kernel
theorem dX3_init_8 : decode cX3_init 8 = .ok (.invokevirtual 13, 3) := by decide +kernel
theorem dX3_init_11 : decode cX3_init 11 = .ok (.checkcast 14, 3) := by decide +kernel
theorem dX3_init_14 : decode cX3_init 14 = .ok (.putfield 18, 3) := by decide +kernel
theorem dX3_init_17 : decode cX3_init 17 = .ok (.aload_n 0, 1) := by decide +kernel
theorem dX3_init_18 : decode cX3_init 18 = .ok (.getstatic 23, 3) := by decide +kernel
theorem dX3_init_21 : decode cX3_init 21 = .ok (.invokevirtual 13, 3) := by decide +kernel
theorem dX3_init_24 : decode cX3_init 24 = .ok (.checkcast 14, 3) := by decide +kernel
theorem dX3_init_27 : decode cX3_init 27 = .ok (.putfield 26, 3) := by decide +kernel
theorem dX3_init_30 : decode cX3_init 30 = .ok (.aload_n 0, 1) := by decide +kernel
theorem dX3_init_31 : decode cX3_init 31 = .ok (.iconst 0, 1) := by decide +kernel
theorem dX3_init_32 : decode cX3_init 32 = .ok (.putfield 29, 3) := by decide +kernel
theorem dX3_init_35 : decode cX3_init 35 = .ok (.aload_n 0, 1) := by decide +kernel
theorem dX3_init_36 : decode cX3_init 36 = .ok (.iconst 4, 1) := by decide +kernel
theorem dX3_init_37 : decode cX3_init 37 = .ok (.newarray .int, 2) := by decide +kernel
theorem dX3_init_39 : decode cX3_init 39 = .ok (.putfield 33, 3) := by decide +kernel
theorem dX3_init_42 : decode cX3_init 42 = .ok (.aload_n 0, 1) := by decide +kernel
theorem dX3_init_43 : decode cX3_init 43 = .ok (.iconst 4, 1) := by decide +kernel
theorem dX3_init_44 : decode cX3_init 44 = .ok (.newarray .int, 2) := by decide +kernel
theorem dX3_init_46 : decode cX3_init 46 = .ok (.putfield 36, 3) := by decide +kernel
theorem dX3_init_49 : decode cX3_init 49 = .ok (.aload_n 0, 1) := by decide +kernel
theorem dX3_init_50 : decode cX3_init 50 = .ok (.iconst 4, 1) := by decide +kernel
theorem dX3_init_51 : decode cX3_init 51 = .ok (.newarray .int, 2) := by decide +kernel
theorem dX3_init_53 : decode cX3_init 53 = .ok (.putfield 39, 3) := by decide +kernel
theorem dX3_init_56 : decode cX3_init 56 = .ok (.aload_n 0, 1) := by decide +kernel
theorem dX3_init_57 : decode cX3_init 57 = .ok (.iconst 4, 1) := by decide +kernel
theorem dX3_init_58 : decode cX3_init 58 = .ok (.newarray .long, 2) := by decide +kernel
theorem dX3_init_60 : decode cX3_init 60 = .ok (.putfield 42, 3) := by decide +kernel
theorem dX3_init_63 : decode cX3_init 63 = .ok (.aload_n 0, 1) := by decide +kernel
theorem dX3_init_64 : decode cX3_init 64 = .ok (.new 46, 3) := by decide +kernel
theorem dX3_init_67 : decode cX3_init 67 = .ok (.dup, 1) := by decide +kernel
theorem dX3_init_68 : decode cX3_init 68 = .ok (.sipush 1024, 3) := by decide +kernel
theorem dX3_init_71 : decode cX3_init 71 = .ok (.invokespecial 48, 3) := by decide +kernel
theorem dX3_init_74 : decode cX3_init 74 = .ok (.putfield 51, 3) := by decide +kernel
theorem dX3_init_77 : decode cX3_init 77 = .ok (.aload_n 0, 1) := by decide +kernel
theorem dX3_init_78 : decode cX3_init 78 = .ok (.new 46, 3) := by decide +kernel
theorem dX3_init_81 : decode cX3_init 81 = .ok (.dup, 1) := by decide +kernel
theorem dX3_init_82 : decode cX3_init 82 = .ok (.bipush 55, 2) := by decide +kernel
theorem dX3_init_84 : decode cX3_init 84 = .ok (.invokespecial 48, 3) := by decide +kernel
theorem dX3_init_87 : decode cX3_init 87 = .ok (.putfield 55, 3) := by decide +kernel
theorem dX3_init_90 : decode cX3_init 90 = .ok (.aload_n 0, 1) := by decide +kernel
theorem dX3_init_91 : decode cX3_init 91 = .ok (.iconst (-1), 1) := by decide +kernel
theorem dX3_init_92 : decode cX3_init 92 = .ok (.putfield 58, 3) := by decide +kernel
theorem dX3_init_95 : decode cX3_init 95 = .ok (.aload_n 0, 1) := by decide +kernel
theorem dX3_init_96 : decode cX3_init 96 = .ok (.iconst 0, 1) := by decide +kernel
theorem dX3_init_97 : decode cX3_init 97 = .ok (.putfield 61, 3) := by decide +kernel
theorem dX3_init_100 : decode cX3_init 100 = .ok (.aload_n 0, 1) := by decide +kernel
theorem dX3_init_101 : decode cX3_init 101 = .ok (.iconst 4, 1) := by decide +kernel
theorem dX3_init_102 : decode cX3_init 102 = .ok (.newarray .int, 2) := by decide +kernel
theorem dX3_init_104 : decode cX3_init 104 = .ok (.dup, 1) := by decide +kernel
theorem dX3_init_105 : decode cX3_init 105 = .ok (.iconst 0, 1) := by decide +kernel
theorem dX3_init_106 : decode cX3_init 106 = .ok (.iconst 1, 1) := by decide +kernel
theorem dX3_init_107 : decode cX3_init 107 = .ok (.iastore, 1) := by decide +kernel
theorem dX3_init_108 : decode cX3_init 108 = .ok (.dup, 1) := by decide +kernel
theorem dX3_init_109 : decode cX3_init 109 = .ok (.iconst 1, 1) := by decide +kernel
theorem dX3_init_110 : decode cX3_init 110 = .ok (.iconst 1, 1) := by decide +kernel
theorem dX3_init_111 : decode cX3_init 111 = .ok (.iastore, 1) := by decide +kernel
theorem dX3_init_112 : decode cX3_init 112 = .ok (.dup, 1) := by decide +kernel
theorem dX3_init_113 : decode cX3_init 113 = .ok (.iconst 2, 1) := by decide +kernel
theorem dX3_init_114 : decode cX3_init 114 = .ok (.iconst 1, 1) := by decide +kernel
theorem dX3_init_115 : decode cX3_init 115 = .ok (.iastore, 1) := by decide +kernel
theorem dX3_init_116 : decode cX3_init 116 = .ok (.dup, 1) := by decide +kernel
theorem dX3_init_117 : decode cX3_init 117 = .ok (.iconst 3, 1) := by decide +kernel
theorem dX3_init_118 : decode cX3_init 118 = .ok (.iconst 1, 1) := by decide +kernel
theorem dX3_init_119 : decode cX3_init 119 = .ok (.iastore, 1) := by decide +kernel
theorem dX3_init_120 : decode cX3_init 120 = .ok (.putfield 64, 3) := by decide +kernel
theorem dX3_init_123 : decode cX3_init 123 = .ok (.aload_n 0, 1) := by decide +kernel
theorem dX3_init_124 : decode cX3_init 124 = .ok (.iconst 4, 1) := by decide +kernel
theorem dX3_init_125 : decode cX3_init 125 = .ok (.newarray .long, 2) := by decide +kernel
theorem dX3_init_127 : decode cX3_init 127 = .ok (.putfield 67, 3) := by decide +kernel
theorem dX3_init_130 : decode cX3_init 130 = .ok (.aload_n 0, 1) := by decide +kernel
theorem dX3_init_131 : decode cX3_init 131 = .ok (.aload_n 1, 1) := by decide +kernel
theorem dX3_init_132 : decode cX3_init 132 = .ok (.putfield 70, 3) := by decide +kernel
theorem dX3_init_135 : decode cX3_init 135 = .ok (.return_, 1) := by decide +kernel
theorem dX3_planRole_0 : decode cX3_planRole 0 = .ok (.iload_n 2, 1) := by decide +kernel
theorem dX3_planRole_1 : decode cX3_planRole 1 = .ok (.invokestatic 74, 3) := by decide +kernel
theorem dX3_planRole_4 : decode cX3_planRole 4 = .ok (.istore 4, 2) := by decide +kernel
theorem dX3_planRole_6 : decode cX3_planRole 6 = .ok (.iload_n 1, 1) := by decide +kernel
theorem dX3_planRole_7 : decode cX3_planRole 7 = .ok (.ifCond .lt 25, 3) := by decide +kernel
theorem dX3_planRole_10 : decode cX3_planRole 10 = .ok (.iload_n 1, 1) := by decide +kernel
theorem dX3_planRole_11 : decode cX3_planRole 11 = .ok (.iconst 4, 1) := by decide +kernel
theorem dX3_planRole_12 : decode cX3_planRole 12 = .ok (.if_icmp .ge 20, 3) := by decide +kernel
theorem dX3_planRole_15 : decode cX3_planRole 15 = .ok (.iload_n 2, 1) := by decide +kernel
theorem dX3_planRole_16 : decode cX3_planRole 16 = .ok (.iconst 1, 1) := by decide +kernel
theorem dX3_planRole_17 : decode cX3_planRole 17 = .ok (.if_icmp .lt 15, 3) := by decide +kernel
theorem dX3_planRole_20 : decode cX3_planRole 20 = .ok (.iload_n 2, 1) := by decide +kernel
theorem dX3_planRole_21 : decode cX3_planRole 21 = .ok (.ldc 80, 2) := by decide +kernel
theorem dX3_planRole_23 : decode cX3_planRole 23 = .ok (.if_icmp .ge 9, 3) := by decide +kernel
theorem dX3_planRole_26 : decode cX3_planRole 26 = .ok (.iload 4, 2) := by decide +kernel
theorem dX3_planRole_28 : decode cX3_planRole 28 = .ok (.iconst 5, 1) := by decide +kernel
theorem dX3_planRole_29 : decode cX3_planRole 29 = .ok (.if_icmp .le 5, 3) := by decide +kernel
theorem dX3_planRole_32 : decode cX3_planRole 32 = .ok (.iconst (-1), 1) := by decide +kernel
theorem dX3_planRole_33 : decode cX3_planRole 33 = .ok (.ireturn, 1) := by decide +kernel
theorem dX3_planRole_34 : decode cX3_planRole 34 = .ok (.iload_n 3, 1) := by decide +kernel
theorem dX3_planRole_35 : decode cX3_planRole 35 = .ok (.iconst 1, 1) := by decide +kernel
theorem dX3_planRole_36 : decode cX3_planRole 36 = .ok (.if_icmp .lt 9, 3) := by decide +kernel
theorem dX3_planRole_39 : decode cX3_planRole 39 = .ok (.iload_n 3, 1) := by decide +kernel
theorem dX3_planRole_40 : decode cX3_planRole 40 = .ok (.iload 4, 2) := by decide +kernel
theorem dX3_planRole_42 : decode cX3_planRole 42 = .ok (.if_icmp .le 5, 3) := by decide +kernel
theorem dX3_planRole_45 : decode cX3_planRole 45 = .ok (.iconst (-1), 1) := by decide +kernel
theorem dX3_planRole_46 : decode cX3_planRole 46 = .ok (.ireturn, 1) := by decide +kernel
theorem dX3_planRole_47 : decode cX3_planRole 47 = .ok (.aload_n 0, 1) := by decide +kernel
theorem dX3_planRole_48 : decode cX3_planRole 48 = .ok (.getfield 18, 3) := by decide +kernel
theorem dX3_planRole_51 : decode cX3_planRole 51 = .ok (.iload_n 1, 1) := by decide +kernel
theorem dX3_planRole_52 : decode cX3_planRole 52 = .ok (.iload_n 2, 1) := by decide +kernel
theorem dX3_planRole_53 : decode cX3_planRole 53 = .ok (.iastore, 1) := by decide +kernel
theorem dX3_planRole_54 : decode cX3_planRole 54 = .ok (.aload_n 0, 1) := by decide +kernel
theorem dX3_planRole_55 : decode cX3_planRole 55 = .ok (.getfield 26, 3) := by decide +kernel
theorem dX3_planRole_58 : decode cX3_planRole 58 = .ok (.iload_n 1, 1) := by decide +kernel
theorem dX3_planRole_59 : decode cX3_planRole 59 = .ok (.iload_n 3, 1) := by decide +kernel
theorem dX3_planRole_60 : decode cX3_planRole 60 = .ok (.iastore, 1) := by decide +kernel
theorem dX3_planRole_61 : decode cX3_planRole 61 = .ok (.iconst 1, 1) := by decide +kernel
theorem dX3_planRole_62 : decode cX3_planRole 62 = .ok (.ireturn, 1) := by decide +kernel
theorem dX3_addImage_0 : decode cX3_addImage 0 = .ok (.aload_n 0, 1) := by decide +kernel
theorem dX3_addImage_1 : decode cX3_addImage 1 = .ok (.getfield 29, 3) := by decide +kernel
theorem dX3_addImage_4 : decode cX3_addImage 4 = .ok (.ifCond .le 25, 3) := by decide +kernel
theorem dX3_addImage_7 : decode cX3_addImage 7 = .ok (.aload_n 0, 1) := by decide +kernel
theorem dX3_addImage_8 : decode cX3_addImage 8 = .ok (.getfield 29, 3) := by decide +kernel
theorem dX3_addImage_11 : decode cX3_addImage 11 = .ok (.iconst 4, 1) := by decide +kernel
theorem dX3_addImage_12 : decode cX3_addImage 12 = .ok (.if_icmp .gt 17, 3) := by decide +kernel
theorem dX3_addImage_15 : decode cX3_addImage 15 = .ok (.aload_n 0, 1) := by decide +kernel
theorem dX3_addImage_16 : decode cX3_addImage 16 = .ok (.getfield 33, 3) := by decide +kernel
theorem dX3_addImage_19 : decode cX3_addImage 19 = .ok (.aload_n 0, 1) := by decide +kernel
theorem dX3_addImage_20 : decode cX3_addImage 20 = .ok (.getfield 29, 3) := by decide +kernel
theorem dX3_addImage_23 : decode cX3_addImage 23 = .ok (.iconst 1, 1) := by decide +kernel
theorem dX3_addImage_24 : decode cX3_addImage 24 = .ok (.isub, 1) := by decide +kernel
theorem dX3_addImage_25 : decode cX3_addImage 25 = .ok (.iaload, 1) := by decide +kernel
theorem dX3_addImage_26 : decode cX3_addImage 26 = .ok (.goto 4, 3) := by decide +kernel
theorem dX3_addImage_29 : decode cX3_addImage 29 = .ok (.iconst 0, 1) := by decide +kernel
theorem dX3_addImage_30 : decode cX3_addImage 30 = .ok (.istore 4, 2) := by decide +kernel
theorem dX3_addImage_32 : decode cX3_addImage 32 = .ok (.iload_n 1, 1) := by decide +kernel
theorem dX3_addImage_33 : decode cX3_addImage 33 = .ok (.iload 4, 2) := by decide +kernel
theorem dX3_addImage_35 : decode cX3_addImage 35 = .ok (.if_icmp .le 21, 3) := by decide +kernel
theorem dX3_addImage_38 : decode cX3_addImage 38 = .ok (.iload_n 1, 1) := by decide +kernel
theorem dX3_addImage_39 : decode cX3_addImage 39 = .ok (.ldc 81, 2) := by decide +kernel
theorem dX3_addImage_41 : decode cX3_addImage 41 = .ok (.if_icmp .gt 15, 3) := by decide +kernel
theorem dX3_addImage_44 : decode cX3_addImage 44 = .ok (.iload_n 2, 1) := by decide +kernel
theorem dX3_addImage_45 : decode cX3_addImage 45 = .ok (.iconst 1, 1) := by decide +kernel
theorem dX3_addImage_46 : decode cX3_addImage 46 = .ok (.if_icmp .lt 10, 3) := by decide +kernel
theorem dX3_addImage_49 : decode cX3_addImage 49 = .ok (.iload_n 2, 1) := by decide +kernel
theorem dX3_addImage_50 : decode cX3_addImage 50 = .ok (.sipush 1024, 3) := by decide +kernel
theorem dX3_addImage_53 : decode cX3_addImage 53 = .ok (.if_icmp .le 5, 3) := by decide +kernel
theorem dX3_addImage_56 : decode cX3_addImage 56 = .ok (.iconst (-1), 1) := by decide +kernel
theorem dX3_addImage_57 : decode cX3_addImage 57 = .ok (.ireturn, 1) := by decide +kernel
theorem dX3_addImage_58 : decode cX3_addImage 58 = .ok (.aload_n 0, 1) := by decide +kernel
theorem dX3_addImage_59 : decode cX3_addImage 59 = .ok (.getfield 29, 3) := by decide +kernel
theorem dX3_addImage_62 : decode cX3_addImage 62 = .ok (.iconst 4, 1) := by decide +kernel
theorem dX3_addImage_63 : decode cX3_addImage 63 = .ok (.if_icmp .lt 6, 3) := by decide +kernel
theorem dX3_addImage_66 : decode cX3_addImage 66 = .ok (.bipush (-5), 2) := by decide +kernel
theorem dX3_addImage_68 : decode cX3_addImage 68 = .ok (.ireturn, 1) := by decide +kernel
theorem dX3_addImage_69 : decode cX3_addImage 69 = .ok (.aload_n 0, 1) := by decide +kernel
theorem dX3_addImage_70 : decode cX3_addImage 70 = .ok (.getfield 33, 3) := by decide +kernel
theorem dX3_addImage_73 : decode cX3_addImage 73 = .ok (.aload_n 0, 1) := by decide +kernel
theorem dX3_addImage_74 : decode cX3_addImage 74 = .ok (.getfield 29, 3) := by decide +kernel
theorem dX3_addImage_77 : decode cX3_addImage 77 = .ok (.iload_n 1, 1) := by decide +kernel
theorem dX3_addImage_78 : decode cX3_addImage 78 = .ok (.iastore, 1) := by decide +kernel
theorem dX3_addImage_79 : decode cX3_addImage 79 = .ok (.aload_n 0, 1) := by decide +kernel
theorem dX3_addImage_80 : decode cX3_addImage 80 = .ok (.getfield 36, 3) := by decide +kernel
theorem dX3_addImage_83 : decode cX3_addImage 83 = .ok (.aload_n 0, 1) := by decide +kernel
theorem dX3_addImage_84 : decode cX3_addImage 84 = .ok (.getfield 29, 3) := by decide +kernel
theorem dX3_addImage_87 : decode cX3_addImage 87 = .ok (.iload_n 2, 1) := by decide +kernel
theorem dX3_addImage_88 : decode cX3_addImage 88 = .ok (.iastore, 1) := by decide +kernel
theorem dX3_addImage_89 : decode cX3_addImage 89 = .ok (.aload_n 0, 1) := by decide +kernel
theorem dX3_addImage_90 : decode cX3_addImage 90 = .ok (.getfield 39, 3) := by decide +kernel
theorem dX3_addImage_93 : decode cX3_addImage 93 = .ok (.aload_n 0, 1) := by decide +kernel
theorem dX3_addImage_94 : decode cX3_addImage 94 = .ok (.getfield 29, 3) := by decide +kernel
theorem dX3_addImage_97 : decode cX3_addImage 97 = .ok (.iload_n 3, 1) := by decide +kernel
theorem dX3_addImage_98 : decode cX3_addImage 98 = .ok (.iastore, 1) := by decide +kernel
theorem dX3_addImage_99 : decode cX3_addImage 99 = .ok (.aload_n 0, 1) := by decide +kernel
theorem dX3_addImage_100 : decode cX3_addImage 100 = .ok (.getfield 51, 3) := by decide +kernel
theorem dX3_addImage_103 : decode cX3_addImage 103 = .ok (.invokevirtual 82, 3) := by decide +kernel
theorem dX3_addImage_106 : decode cX3_addImage 106 = .ok (.aload_n 0, 1) := by decide +kernel
theorem dX3_addImage_107 : decode cX3_addImage 107 = .ok (.aload_n 0, 1) := by decide +kernel
theorem dX3_addImage_108 : decode cX3_addImage 108 = .ok (.getfield 51, 3) := by decide +kernel
theorem dX3_addImage_111 : decode cX3_addImage 111 = .ok (.aload_n 0, 1) := by decide +kernel
theorem dX3_addImage_112 : decode cX3_addImage 112 = .ok (.getfield 29, 3) := by decide +kernel
theorem dX3_addImage_115 : decode cX3_addImage 115 = .ok (.iconst 0, 1) := by decide +kernel
theorem dX3_addImage_116 : decode cX3_addImage 116 = .ok (.iload_n 2, 1) := by decide +kernel
theorem dX3_addImage_117 : decode cX3_addImage 117 = .ok (.invokevirtual 85, 3) := by decide +kernel
theorem dX3_addImage_120 : decode cX3_addImage 120 = .ok (.aload_n 0, 1) := by decide +kernel
theorem dX3_addImage_121 : decode cX3_addImage 121 = .ok (.getfield 42, 3) := by decide +kernel
theorem dX3_addImage_124 : decode cX3_addImage 124 = .ok (.aload_n 0, 1) := by decide +kernel
theorem dX3_addImage_125 : decode cX3_addImage 125 = .ok (.getfield 29, 3) := by decide +kernel
theorem dX3_addImage_128 : decode cX3_addImage 128 = .ok (.aload_n 0, 1) := by decide +kernel
theorem dX3_addImage_129 : decode cX3_addImage 129 = .ok (.getfield 51, 3) := by decide +kernel
theorem dX3_addImage_132 : decode cX3_addImage 132 = .ok (.iconst 0, 1) := by decide +kernel
theorem dX3_addImage_133 : decode cX3_addImage 133 = .ok (.iload_n 2, 1) := by decide +kernel
theorem dX3_addImage_134 : decode cX3_addImage 134 = .ok (.invokevirtual 89, 3) := by decide +kernel
theorem dX3_addImage_137 : decode cX3_addImage 137 = .ok (.lastore, 1) := by decide +kernel
theorem dX3_addImage_138 : decode cX3_addImage 138 = .ok (.aload_n 0, 1) := by decide +kernel
theorem dX3_addImage_139 : decode cX3_addImage 139 = .ok (.dup, 1) := by decide +kernel
theorem dX3_addImage_140 : decode cX3_addImage 140 = .ok (.getfield 29, 3) := by decide +kernel
theorem dX3_addImage_143 : decode cX3_addImage 143 = .ok (.iconst 1, 1) := by decide +kernel
theorem dX3_addImage_144 : decode cX3_addImage 144 = .ok (.iadd, 1) := by decide +kernel
theorem dX3_addImage_145 : decode cX3_addImage 145 = .ok (.putfield 29, 3) := by decide +kernel
theorem dX3_addImage_148 : decode cX3_addImage 148 = .ok (.aload_n 0, 1) := by decide +kernel
theorem dX3_addImage_149 : decode cX3_addImage 149 = .ok (.getfield 29, 3) := by decide +kernel
theorem dX3_addImage_152 : decode cX3_addImage 152 = .ok (.ireturn, 1) := by decide +kernel
theorem dX3_addProgram_0 : decode cX3_addProgram 0 = .ok (.aload_n 0, 1) := by decide +kernel
theorem dX3_addProgram_1 : decode cX3_addProgram 1 = .ok (.getfield 39, 3) := by decide +kernel
theorem dX3_addProgram_4 : decode cX3_addProgram 4 = .ok (.iload_n 2, 1) := by decide +kernel
theorem dX3_addProgram_5 : decode cX3_addProgram 5 = .ok (.iaload, 1) := by decide +kernel
theorem dX3_addProgram_6 : decode cX3_addProgram 6 = .ok (.istore 5, 2) := by decide +kernel
theorem dX3_addProgram_8 : decode cX3_addProgram 8 = .ok (.iload_n 3, 1) := by decide +kernel
theorem dX3_addProgram_9 : decode cX3_addProgram 9 = .ok (.istore 6, 2) := by decide +kernel
theorem dX3_addProgram_11 : decode cX3_addProgram 11 = .ok (.iload 6, 2) := by decide +kernel
theorem dX3_addProgram_13 : decode cX3_addProgram 13 = .ok (.iload 4, 2) := by decide +kernel
theorem dX3_addProgram_15 : decode cX3_addProgram 15 = .ok (.if_icmp .ge 30, 3) := by decide +kernel
theorem dX3_addProgram_18 : decode cX3_addProgram 18 = .ok (.aload_n 1, 1) := by decide +kernel
theorem dX3_addProgram_19 : decode cX3_addProgram 19 = .ok (.iload 5, 2) := by decide +kernel
theorem dX3_addProgram_21 : decode cX3_addProgram 21 = .ok (.bipush 7, 2) := by decide +kernel
theorem dX3_addProgram_23 : decode cX3_addProgram 23 = .ok (.iload 6, 2) := by decide +kernel
theorem dX3_addProgram_25 : decode cX3_addProgram 25 = .ok (.imul, 1) := by decide +kernel
theorem dX3_addProgram_26 : decode cX3_addProgram 26 = .ok (.iadd, 1) := by decide +kernel
theorem dX3_addProgram_27 : decode cX3_addProgram 27 = .ok (.iload 6, 2) := by decide +kernel
theorem dX3_addProgram_29 : decode cX3_addProgram 29 = .ok (.bipush 6, 2) := by decide +kernel
theorem dX3_addProgram_31 : decode cX3_addProgram 31 = .ok (.ishr, 1) := by decide +kernel
theorem dX3_addProgram_32 : decode cX3_addProgram 32 = .ok (.iload 5, 2) := by decide +kernel
theorem dX3_addProgram_34 : decode cX3_addProgram 34 = .ok (.imul, 1) := by decide +kernel
theorem dX3_addProgram_35 : decode cX3_addProgram 35 = .ok (.iadd, 1) := by decide +kernel
theorem dX3_addProgram_36 : decode cX3_addProgram 36 = .ok (.invokevirtual 93, 3) := by decide +kernel
theorem dX3_addProgram_39 : decode cX3_addProgram 39 = .ok (.iinc 6 1, 3) := by decide +kernel
theorem dX3_addProgram_42 : decode cX3_addProgram 42 = .ok (.goto (-31), 3) := by decide +kernel
theorem dX3_addProgram_45 : decode cX3_addProgram 45 = .ok (.return_, 1) := by decide +kernel
theorem dX3_dropImages_0 : decode cX3_dropImages 0 = .ok (.aload_n 0, 1) := by decide +kernel
theorem dX3_dropImages_1 : decode cX3_dropImages 1 = .ok (.getfield 29, 3) := by decide +kernel
theorem dX3_dropImages_4 : decode cX3_dropImages 4 = .ok (.istore_n 1, 1) := by decide +kernel
theorem dX3_dropImages_5 : decode cX3_dropImages 5 = .ok (.aload_n 0, 1) := by decide +kernel
theorem dX3_dropImages_6 : decode cX3_dropImages 6 = .ok (.iconst 0, 1) := by decide +kernel
theorem dX3_dropImages_7 : decode cX3_dropImages 7 = .ok (.putfield 29, 3) := by decide +kernel
theorem dX3_dropImages_10 : decode cX3_dropImages 10 = .ok (.iload_n 1, 1) := by decide +kernel
theorem dX3_dropImages_11 : decode cX3_dropImages 11 = .ok (.ireturn, 1) := by decide +kernel
theorem dX3_compose_0 : decode cX3_compose 0 = .ok (.iload_n 1, 1) := by decide +kernel
theorem dX3_compose_1 : decode cX3_compose 1 = .ok (.ifCond .lt 23, 3) := by decide +kernel
theorem dX3_compose_4 : decode cX3_compose 4 = .ok (.iload_n 1, 1) := by decide +kernel
theorem dX3_compose_5 : decode cX3_compose 5 = .ok (.iconst 4, 1) := by decide +kernel
theorem dX3_compose_6 : decode cX3_compose 6 = .ok (.if_icmp .ge 18, 3) := by decide +kernel
theorem dX3_compose_9 : decode cX3_compose 9 = .ok (.iload_n 2, 1) := by decide +kernel
theorem dX3_compose_10 : decode cX3_compose 10 = .ok (.iconst 1, 1) := by decide +kernel
theorem dX3_compose_11 : decode cX3_compose 11 = .ok (.if_icmp .lt 13, 3) := by decide +kernel
theorem dX3_compose_14 : decode cX3_compose 14 = .ok (.iload_n 2, 1) := by decide +kernel
theorem dX3_compose_15 : decode cX3_compose 15 = .ok (.ldc 81, 2) := by decide +kernel
theorem dX3_compose_17 : decode cX3_compose 17 = .ok (.if_icmp .gt 7, 3) := by decide +kernel
theorem dX3_compose_20 : decode cX3_compose 20 = .ok (.iload_n 3, 1) := by decide +kernel
theorem dX3_compose_21 : decode cX3_compose 21 = .ok (.ifCond .ge 5, 3) := by decide +kernel
theorem dX3_compose_24 : decode cX3_compose 24 = .ok (.iconst (-1), 1) := by decide +kernel
theorem dX3_compose_25 : decode cX3_compose 25 = .ok (.ireturn, 1) := by decide +kernel
theorem dX3_compose_26 : decode cX3_compose 26 = .ok (.aload_n 0, 1) := by decide +kernel
theorem dX3_compose_27 : decode cX3_compose 27 = .ok (.getfield 55, 3) := by decide +kernel
theorem dX3_compose_30 : decode cX3_compose 30 = .ok (.invokevirtual 82, 3) := by decide +kernel
theorem dX3_compose_33 : decode cX3_compose 33 = .ok (.aload_n 0, 1) := by decide +kernel
theorem dX3_compose_34 : decode cX3_compose 34 = .ok (.getfield 55, 3) := by decide +kernel
theorem dX3_compose_37 : decode cX3_compose 37 = .ok (.iload_n 2, 1) := by decide +kernel
theorem dX3_compose_38 : decode cX3_compose 38 = .ok (.i2l, 1) := by decide +kernel
theorem dX3_compose_39 : decode cX3_compose 39 = .ok (.iconst 2, 1) := by decide +kernel
theorem dX3_compose_40 : decode cX3_compose 40 = .ok (.invokevirtual 96, 3) := by decide +kernel
theorem dX3_compose_43 : decode cX3_compose 43 = .ok (.aload_n 0, 1) := by decide +kernel
theorem dX3_compose_44 : decode cX3_compose 44 = .ok (.getfield 55, 3) := by decide +kernel
theorem dX3_compose_47 : decode cX3_compose 47 = .ok (.iload_n 3, 1) := by decide +kernel
theorem dX3_compose_48 : decode cX3_compose 48 = .ok (.i2l, 1) := by decide +kernel
theorem dX3_compose_49 : decode cX3_compose 49 = .ok (.iconst 4, 1) := by decide +kernel
theorem dX3_compose_50 : decode cX3_compose 50 = .ok (.invokevirtual 96, 3) := by decide +kernel
theorem dX3_compose_53 : decode cX3_compose 53 = .ok (.iload_n 1, 1) := by decide +kernel
theorem dX3_compose_54 : decode cX3_compose 54 = .ok (.ifCond .ne 10, 3) := by decide +kernel
theorem dX3_compose_57 : decode cX3_compose 57 = .ok (.aload_n 0, 1) := by decide +kernel
theorem dX3_compose_58 : decode cX3_compose 58 = .ok (.invokevirtual 100, 3) := by decide +kernel
theorem dX3_compose_61 : decode cX3_compose 61 = .ok (.goto 49, 3) := by decide +kernel
theorem dX3_compose_64 : decode cX3_compose 64 = .ok (.iload_n 1, 1) := by decide +kernel
theorem dX3_compose_65 : decode cX3_compose 65 = .ok (.iconst 3, 1) := by decide +kernel
theorem dX3_compose_66 : decode cX3_compose 66 = .ok (.if_icmp .ne 10, 3) := by decide +kernel
theorem dX3_compose_69 : decode cX3_compose 69 = .ok (.aload_n 0, 1) := by decide +kernel
theorem dX3_compose_70 : decode cX3_compose 70 = .ok (.invokevirtual 103, 3) := by decide +kernel
theorem dX3_compose_73 : decode cX3_compose 73 = .ok (.goto 37, 3) := by decide +kernel
theorem dX3_compose_76 : decode cX3_compose 76 = .ok (.aload_n 0, 1) := by decide +kernel
theorem dX3_compose_77 : decode cX3_compose 77 = .ok (.getfield 55, 3) := by decide +kernel
theorem dX3_compose_80 : decode cX3_compose 80 = .ok (.aload_n 0, 1) := by decide +kernel
theorem dX3_compose_81 : decode cX3_compose 81 = .ok (.getfield 64, 3) := by decide +kernel
theorem dX3_compose_84 : decode cX3_compose 84 = .ok (.iload_n 1, 1) := by decide +kernel
theorem dX3_compose_85 : decode cX3_compose 85 = .ok (.iconst 1, 1) := by decide +kernel
theorem dX3_compose_86 : decode cX3_compose 86 = .ok (.iadd, 1) := by decide +kernel
theorem dX3_compose_87 : decode cX3_compose 87 = .ok (.iaload, 1) := by decide +kernel
theorem dX3_compose_88 : decode cX3_compose 88 = .ok (.i2l, 1) := by decide +kernel
theorem dX3_compose_89 : decode cX3_compose 89 = .ok (.iconst 2, 1) := by decide +kernel
theorem dX3_compose_90 : decode cX3_compose 90 = .ok (.invokevirtual 96, 3) := by decide +kernel
theorem dX3_compose_93 : decode cX3_compose 93 = .ok (.aload_n 0, 1) := by decide +kernel
theorem dX3_compose_94 : decode cX3_compose 94 = .ok (.getfield 55, 3) := by decide +kernel
theorem dX3_compose_97 : decode cX3_compose 97 = .ok (.aload_n 0, 1) := by decide +kernel
theorem dX3_compose_98 : decode cX3_compose 98 = .ok (.getfield 67, 3) := by decide +kernel
theorem dX3_compose_101 : decode cX3_compose 101 = .ok (.iload_n 1, 1) := by decide +kernel
theorem dX3_compose_102 : decode cX3_compose 102 = .ok (.iconst 1, 1) := by decide +kernel
theorem dX3_compose_103 : decode cX3_compose 103 = .ok (.iadd, 1) := by decide +kernel
theorem dX3_compose_104 : decode cX3_compose 104 = .ok (.laload, 1) := by decide +kernel
theorem dX3_compose_105 : decode cX3_compose 105 = .ok (.bipush 8, 2) := by decide +kernel
theorem dX3_compose_107 : decode cX3_compose 107 = .ok (.invokevirtual 96, 3) := by decide +kernel
theorem dX3_compose_110 : decode cX3_compose 110 = .ok (.aload_n 0, 1) := by decide +kernel
theorem dX3_compose_111 : decode cX3_compose 111 = .ok (.iload_n 1, 1) := by decide +kernel
theorem dX3_compose_112 : decode cX3_compose 112 = .ok (.putfield 58, 3) := by decide +kernel
theorem dX3_compose_115 : decode cX3_compose 115 = .ok (.aload_n 0, 1) := by decide +kernel
theorem dX3_compose_116 : decode cX3_compose 116 = .ok (.iconst 0, 1) := by decide +kernel
theorem dX3_compose_117 : decode cX3_compose 117 = .ok (.putfield 61, 3) := by decide +kernel
theorem dX3_compose_120 : decode cX3_compose 120 = .ok (.aload_n 0, 1) := by decide +kernel
theorem dX3_compose_121 : decode cX3_compose 121 = .ok (.getfield 64, 3) := by decide +kernel
theorem dX3_compose_124 : decode cX3_compose 124 = .ok (.iload_n 1, 1) := by decide +kernel
theorem dX3_compose_125 : decode cX3_compose 125 = .ok (.iload_n 2, 1) := by decide +kernel
theorem dX3_compose_126 : decode cX3_compose 126 = .ok (.iastore, 1) := by decide +kernel
theorem dX3_compose_127 : decode cX3_compose 127 = .ok (.aload_n 0, 1) := by decide +kernel
theorem dX3_compose_128 : decode cX3_compose 128 = .ok (.getfield 67, 3) := by decide +kernel
theorem dX3_compose_131 : decode cX3_compose 131 = .ok (.iload_n 1, 1) := by decide +kernel
theorem dX3_compose_132 : decode cX3_compose 132 = .ok (.aload_n 0, 1) := by decide +kernel
theorem dX3_compose_133 : decode cX3_compose 133 = .ok (.getfield 55, 3) := by decide +kernel
theorem dX3_compose_136 : decode cX3_compose 136 = .ok (.iconst 0, 1) := by decide +kernel
theorem dX3_compose_137 : decode cX3_compose 137 = .ok (.aload_n 0, 1) := by decide +kernel
theorem dX3_compose_138 : decode cX3_compose 138 = .ok (.getfield 55, 3) := by decide +kernel
theorem dX3_compose_141 : decode cX3_compose 141 = .ok (.invokevirtual 106, 3) := by decide +kernel
theorem dX3_compose_144 : decode cX3_compose 144 = .ok (.invokevirtual 89, 3) := by decide +kernel
theorem dX3_compose_147 : decode cX3_compose 147 = .ok (.lastore, 1) := by decide +kernel
theorem dX3_compose_148 : decode cX3_compose 148 = .ok (.aload_n 0, 1) := by decide +kernel
theorem dX3_compose_149 : decode cX3_compose 149 = .ok (.getfield 55, 3) := by decide +kernel
theorem dX3_compose_152 : decode cX3_compose 152 = .ok (.invokevirtual 106, 3) := by decide +kernel
theorem dX3_compose_155 : decode cX3_compose 155 = .ok (.ireturn, 1) := by decide +kernel
theorem dX3_addRoles_0 : decode cX3_addRoles 0 = .ok (.iconst 0, 1) := by decide +kernel
theorem dX3_addRoles_1 : decode cX3_addRoles 1 = .ok (.istore_n 1, 1) := by decide +kernel
theorem dX3_addRoles_2 : decode cX3_addRoles 2 = .ok (.iload_n 1, 1) := by decide +kernel
theorem dX3_addRoles_3 : decode cX3_addRoles 3 = .ok (.iconst 4, 1) := by decide +kernel
theorem dX3_addRoles_4 : decode cX3_addRoles 4 = .ok (.if_icmp .ge 35, 3) := by decide +kernel
theorem dX3_addRoles_7 : decode cX3_addRoles 7 = .ok (.aload_n 0, 1) := by decide +kernel
theorem dX3_addRoles_8 : decode cX3_addRoles 8 = .ok (.getfield 55, 3) := by decide +kernel
theorem dX3_addRoles_11 : decode cX3_addRoles 11 = .ok (.aload_n 0, 1) := by decide +kernel
theorem dX3_addRoles_12 : decode cX3_addRoles 12 = .ok (.getfield 26, 3) := by decide +kernel
theorem dX3_addRoles_15 : decode cX3_addRoles 15 = .ok (.iload_n 1, 1) := by decide +kernel
theorem dX3_addRoles_16 : decode cX3_addRoles 16 = .ok (.iaload, 1) := by decide +kernel
theorem dX3_addRoles_17 : decode cX3_addRoles 17 = .ok (.invokevirtual 93, 3) := by decide +kernel
theorem dX3_addRoles_20 : decode cX3_addRoles 20 = .ok (.aload_n 0, 1) := by decide +kernel
theorem dX3_addRoles_21 : decode cX3_addRoles 21 = .ok (.getfield 55, 3) := by decide +kernel
theorem dX3_addRoles_24 : decode cX3_addRoles 24 = .ok (.aload_n 0, 1) := by decide +kernel
theorem dX3_addRoles_25 : decode cX3_addRoles 25 = .ok (.getfield 18, 3) := by decide +kernel
theorem dX3_addRoles_28 : decode cX3_addRoles 28 = .ok (.iload_n 1, 1) := by decide +kernel
theorem dX3_addRoles_29 : decode cX3_addRoles 29 = .ok (.iaload, 1) := by decide +kernel
theorem dX3_addRoles_30 : decode cX3_addRoles 30 = .ok (.invokevirtual 110, 3) := by decide +kernel
theorem dX3_addRoles_33 : decode cX3_addRoles 33 = .ok (.iinc 1 1, 3) := by decide +kernel
theorem dX3_addRoles_36 : decode cX3_addRoles 36 = .ok (.goto (-34), 3) := by decide +kernel
theorem dX3_addRoles_39 : decode cX3_addRoles 39 = .ok (.return_, 1) := by decide +kernel
theorem dX3_addImages_0 : decode cX3_addImages 0 = .ok (.aload_n 0, 1) := by decide +kernel
theorem dX3_addImages_1 : decode cX3_addImages 1 = .ok (.getfield 55, 3) := by decide +kernel
theorem dX3_addImages_4 : decode cX3_addImages 4 = .ok (.aload_n 0, 1) := by decide +kernel
theorem dX3_addImages_5 : decode cX3_addImages 5 = .ok (.getfield 29, 3) := by decide +kernel
theorem dX3_addImages_8 : decode cX3_addImages 8 = .ok (.invokevirtual 93, 3) := by decide +kernel
theorem dX3_addImages_11 : decode cX3_addImages 11 = .ok (.iconst 0, 1) := by decide +kernel
theorem dX3_addImages_12 : decode cX3_addImages 12 = .ok (.istore_n 1, 1) := by decide +kernel
theorem dX3_addImages_13 : decode cX3_addImages 13 = .ok (.iload_n 1, 1) := by decide +kernel
theorem dX3_addImages_14 : decode cX3_addImages 14 = .ok (.aload_n 0, 1) := by decide +kernel
theorem dX3_addImages_15 : decode cX3_addImages 15 = .ok (.getfield 29, 3) := by decide +kernel
theorem dX3_addImages_18 : decode cX3_addImages 18 = .ok (.if_icmp .ge 59, 3) := by decide +kernel
theorem dX3_addImages_21 : decode cX3_addImages 21 = .ok (.iload_n 1, 1) := by decide +kernel
theorem dX3_addImages_22 : decode cX3_addImages 22 = .ok (.iconst 4, 1) := by decide +kernel
theorem dX3_addImages_23 : decode cX3_addImages 23 = .ok (.if_icmp .ge 54, 3) := by decide +kernel
theorem dX3_addImages_26 : decode cX3_addImages 26 = .ok (.aload_n 0, 1) := by decide +kernel
theorem dX3_addImages_27 : decode cX3_addImages 27 = .ok (.getfield 55, 3) := by decide +kernel
theorem dX3_addImages_30 : decode cX3_addImages 30 = .ok (.aload_n 0, 1) := by decide +kernel
theorem dX3_addImages_31 : decode cX3_addImages 31 = .ok (.getfield 33, 3) := by decide +kernel
theorem dX3_addImages_34 : decode cX3_addImages 34 = .ok (.iload_n 1, 1) := by decide +kernel
theorem dX3_addImages_35 : decode cX3_addImages 35 = .ok (.iaload, 1) := by decide +kernel
theorem dX3_addImages_36 : decode cX3_addImages 36 = .ok (.i2l, 1) := by decide +kernel
theorem dX3_addImages_37 : decode cX3_addImages 37 = .ok (.iconst 2, 1) := by decide +kernel
theorem dX3_addImages_38 : decode cX3_addImages 38 = .ok (.invokevirtual 96, 3) := by decide +kernel
theorem dX3_addImages_41 : decode cX3_addImages 41 = .ok (.aload_n 0, 1) := by decide +kernel
theorem dX3_addImages_42 : decode cX3_addImages 42 = .ok (.getfield 55, 3) := by decide +kernel
theorem dX3_addImages_45 : decode cX3_addImages 45 = .ok (.aload_n 0, 1) := by decide +kernel
theorem dX3_addImages_46 : decode cX3_addImages 46 = .ok (.getfield 36, 3) := by decide +kernel
theorem dX3_addImages_49 : decode cX3_addImages 49 = .ok (.iload_n 1, 1) := by decide +kernel
theorem dX3_addImages_50 : decode cX3_addImages 50 = .ok (.iaload, 1) := by decide +kernel
theorem dX3_addImages_51 : decode cX3_addImages 51 = .ok (.i2l, 1) := by decide +kernel
theorem dX3_addImages_52 : decode cX3_addImages 52 = .ok (.iconst 2, 1) := by decide +kernel
theorem dX3_addImages_53 : decode cX3_addImages 53 = .ok (.invokevirtual 96, 3) := by decide +kernel
theorem dX3_addImages_56 : decode cX3_addImages 56 = .ok (.aload_n 0, 1) := by decide +kernel
theorem dX3_addImages_57 : decode cX3_addImages 57 = .ok (.getfield 55, 3) := by decide +kernel
theorem dX3_addImages_60 : decode cX3_addImages 60 = .ok (.aload_n 0, 1) := by decide +kernel
theorem dX3_addImages_61 : decode cX3_addImages 61 = .ok (.getfield 42, 3) := by decide +kernel
theorem dX3_addImages_64 : decode cX3_addImages 64 = .ok (.iload_n 1, 1) := by decide +kernel
theorem dX3_addImages_65 : decode cX3_addImages 65 = .ok (.laload, 1) := by decide +kernel
theorem dX3_addImages_66 : decode cX3_addImages 66 = .ok (.bipush 8, 2) := by decide +kernel
theorem dX3_addImages_68 : decode cX3_addImages 68 = .ok (.invokevirtual 96, 3) := by decide +kernel
theorem dX3_addImages_71 : decode cX3_addImages 71 = .ok (.iinc 1 1, 3) := by decide +kernel
theorem dX3_addImages_74 : decode cX3_addImages 74 = .ok (.goto (-61), 3) := by decide +kernel
theorem dX3_addImages_77 : decode cX3_addImages 77 = .ok (.return_, 1) := by decide +kernel
theorem dX3_addKey_0 : decode cX3_addKey 0 = .ok (.aload_n 0, 1) := by decide +kernel
theorem dX3_addKey_1 : decode cX3_addKey 1 = .ok (.getfield 58, 3) := by decide +kernel
theorem dX3_addKey_4 : decode cX3_addKey 4 = .ok (.iconst (-1), 1) := by decide +kernel
theorem dX3_addKey_5 : decode cX3_addKey 5 = .ok (.if_icmp .eq 13, 3) := by decide +kernel
theorem dX3_addKey_8 : decode cX3_addKey 8 = .ok (.iload_n 1, 1) := by decide +kernel
theorem dX3_addKey_9 : decode cX3_addKey 9 = .ok (.ifCond .lt 9, 3) := by decide +kernel
theorem dX3_addKey_12 : decode cX3_addKey 12 = .ok (.iload_n 1, 1) := by decide +kernel
theorem dX3_addKey_13 : decode cX3_addKey 13 = .ok (.bipush 16, 2) := by decide +kernel
theorem dX3_addKey_15 : decode cX3_addKey 15 = .ok (.if_icmp .lt 5, 3) := by decide +kernel
theorem dX3_addKey_18 : decode cX3_addKey 18 = .ok (.iconst (-1), 1) := by decide +kernel
theorem dX3_addKey_19 : decode cX3_addKey 19 = .ok (.ireturn, 1) := by decide +kernel
theorem dX3_addKey_20 : decode cX3_addKey 20 = .ok (.aload_n 0, 1) := by decide +kernel
theorem dX3_addKey_21 : decode cX3_addKey 21 = .ok (.getfield 70, 3) := by decide +kernel
theorem dX3_addKey_24 : decode cX3_addKey 24 = .ok (.iload_n 1, 1) := by decide +kernel
theorem dX3_addKey_25 : decode cX3_addKey 25 = .ok (.aload_n 0, 1) := by decide +kernel
theorem dX3_addKey_26 : decode cX3_addKey 26 = .ok (.getfield 55, 3) := by decide +kernel
theorem dX3_addKey_29 : decode cX3_addKey 29 = .ok (.iconst 0, 1) := by decide +kernel
theorem dX3_addKey_30 : decode cX3_addKey 30 = .ok (.aload_n 0, 1) := by decide +kernel
theorem dX3_addKey_31 : decode cX3_addKey 31 = .ok (.getfield 55, 3) := by decide +kernel
theorem dX3_addKey_34 : decode cX3_addKey 34 = .ok (.invokevirtual 106, 3) := by decide +kernel
theorem dX3_addKey_37 : decode cX3_addKey 37 = .ok (.invokevirtual 89, 3) := by decide +kernel
theorem dX3_addKey_40 : decode cX3_addKey 40 = .ok (.invokevirtual 113, 3) := by decide +kernel
theorem dX3_addKey_43 : decode cX3_addKey 43 = .ok (.ifCond .ne 6, 3) := by decide +kernel
theorem dX3_addKey_46 : decode cX3_addKey 46 = .ok (.bipush (-5), 2) := by decide +kernel
theorem dX3_addKey_48 : decode cX3_addKey 48 = .ok (.ireturn, 1) := by decide +kernel
theorem dX3_addKey_49 : decode cX3_addKey 49 = .ok (.aload_n 0, 1) := by decide +kernel
theorem dX3_addKey_50 : decode cX3_addKey 50 = .ok (.dup, 1) := by decide +kernel
theorem dX3_addKey_51 : decode cX3_addKey 51 = .ok (.getfield 61, 3) := by decide +kernel
theorem dX3_addKey_54 : decode cX3_addKey 54 = .ok (.iconst 1, 1) := by decide +kernel
theorem dX3_addKey_55 : decode cX3_addKey 55 = .ok (.iload_n 1, 1) := by decide +kernel
theorem dX3_addKey_56 : decode cX3_addKey 56 = .ok (.ishl, 1) := by decide +kernel
theorem dX3_addKey_57 : decode cX3_addKey 57 = .ok (.ior, 1) := by decide +kernel
theorem dX3_addKey_58 : decode cX3_addKey 58 = .ok (.putfield 61, 3) := by decide +kernel
theorem dX3_addKey_61 : decode cX3_addKey 61 = .ok (.aload_n 0, 1) := by decide +kernel
theorem dX3_addKey_62 : decode cX3_addKey 62 = .ok (.getfield 61, 3) := by decide +kernel
theorem dX3_addKey_65 : decode cX3_addKey 65 = .ok (.invokestatic 74, 3) := by decide +kernel
theorem dX3_addKey_68 : decode cX3_addKey 68 = .ok (.ireturn, 1) := by decide +kernel
theorem dX3_copyDraft_0 : decode cX3_copyDraft 0 = .ok (.aload_n 0, 1) := by decide +kernel
theorem dX3_copyDraft_1 : decode cX3_copyDraft 1 = .ok (.getfield 58, 3) := by decide +kernel
theorem dX3_copyDraft_4 : decode cX3_copyDraft 4 = .ok (.iconst (-1), 1) := by decide +kernel
theorem dX3_copyDraft_5 : decode cX3_copyDraft 5 = .ok (.if_icmp .ne 5, 3) := by decide +kernel
theorem dX3_copyDraft_8 : decode cX3_copyDraft 8 = .ok (.iconst (-1), 1) := by decide +kernel
theorem dX3_copyDraft_9 : decode cX3_copyDraft 9 = .ok (.ireturn, 1) := by decide +kernel
theorem dX3_copyDraft_10 : decode cX3_copyDraft 10 = .ok (.aload_n 1, 1) := by decide +kernel
theorem dX3_copyDraft_11 : decode cX3_copyDraft 11 = .ok (.invokevirtual 82, 3) := by decide +kernel
theorem dX3_copyDraft_14 : decode cX3_copyDraft 14 = .ok (.aload_n 1, 1) := by decide +kernel
theorem dX3_copyDraft_15 : decode cX3_copyDraft 15 = .ok (.aload_n 0, 1) := by decide +kernel
theorem dX3_copyDraft_16 : decode cX3_copyDraft 16 = .ok (.getfield 58, 3) := by decide +kernel
theorem dX3_copyDraft_19 : decode cX3_copyDraft 19 = .ok (.invokevirtual 93, 3) := by decide +kernel
theorem dX3_copyDraft_22 : decode cX3_copyDraft 22 = .ok (.aload_n 1, 1) := by decide +kernel
theorem dX3_copyDraft_23 : decode cX3_copyDraft 23 = .ok (.aload_n 0, 1) := by decide +kernel
theorem dX3_copyDraft_24 : decode cX3_copyDraft 24 = .ok (.getfield 55, 3) := by decide +kernel
theorem dX3_copyDraft_27 : decode cX3_copyDraft 27 = .ok (.invokevirtual 106, 3) := by decide +kernel
theorem dX3_copyDraft_30 : decode cX3_copyDraft 30 = .ok (.i2l, 1) := by decide +kernel
theorem dX3_copyDraft_31 : decode cX3_copyDraft 31 = .ok (.iconst 2, 1) := by decide +kernel
theorem dX3_copyDraft_32 : decode cX3_copyDraft 32 = .ok (.invokevirtual 96, 3) := by decide +kernel
theorem dX3_copyDraft_35 : decode cX3_copyDraft 35 = .ok (.aload_n 1, 1) := by decide +kernel
theorem dX3_copyDraft_36 : decode cX3_copyDraft 36 = .ok (.aload_n 0, 1) := by decide +kernel
theorem dX3_copyDraft_37 : decode cX3_copyDraft 37 = .ok (.getfield 55, 3) := by decide +kernel
theorem dX3_copyDraft_40 : decode cX3_copyDraft 40 = .ok (.iconst 0, 1) := by decide +kernel
theorem dX3_copyDraft_41 : decode cX3_copyDraft 41 = .ok (.aload_n 0, 1) := by decide +kernel
theorem dX3_copyDraft_42 : decode cX3_copyDraft 42 = .ok (.getfield 55, 3) := by decide +kernel
theorem dX3_copyDraft_45 : decode cX3_copyDraft 45 = .ok (.invokevirtual 106, 3) := by decide +kernel
theorem dX3_copyDraft_48 : decode cX3_copyDraft 48 = .ok (.invokevirtual 118, 3) := by decide +kernel
theorem dX3_copyDraft_51 : decode cX3_copyDraft 51 = .ok (.aload_n 1, 1) := by decide +kernel
theorem dX3_copyDraft_52 : decode cX3_copyDraft 52 = .ok (.aload_n 0, 1) := by decide +kernel
theorem dX3_copyDraft_53 : decode cX3_copyDraft 53 = .ok (.getfield 61, 3) := by decide +kernel
theorem dX3_copyDraft_56 : decode cX3_copyDraft 56 = .ok (.invokevirtual 110, 3) := by decide +kernel
theorem dX3_copyDraft_59 : decode cX3_copyDraft 59 = .ok (.aload_n 1, 1) := by decide +kernel
theorem dX3_copyDraft_60 : decode cX3_copyDraft 60 = .ok (.invokevirtual 106, 3) := by decide +kernel
theorem dX3_copyDraft_63 : decode cX3_copyDraft 63 = .ok (.ireturn, 1) := by decide +kernel
theorem dX3_copyPiece_0 : decode cX3_copyPiece 0 = .ok (.iconst 0, 1) := by decide +kernel
theorem dX3_copyPiece_1 : decode cX3_copyPiece 1 = .ok (.istore 4, 2) := by decide +kernel
theorem dX3_copyPiece_3 : decode cX3_copyPiece 3 = .ok (.iload 4, 2) := by decide +kernel
theorem dX3_copyPiece_5 : decode cX3_copyPiece 5 = .ok (.aload_n 0, 1) := by decide +kernel
theorem dX3_copyPiece_6 : decode cX3_copyPiece 6 = .ok (.getfield 29, 3) := by decide +kernel
theorem dX3_copyPiece_9 : decode cX3_copyPiece 9 = .ok (.if_icmp .ge 85, 3) := by decide +kernel
theorem dX3_copyPiece_12 : decode cX3_copyPiece 12 = .ok (.iload 4, 2) := by decide +kernel
theorem dX3_copyPiece_14 : decode cX3_copyPiece 14 = .ok (.iconst 4, 1) := by decide +kernel
theorem dX3_copyPiece_15 : decode cX3_copyPiece 15 = .ok (.if_icmp .ge 79, 3) := by decide +kernel
theorem dX3_copyPiece_18 : decode cX3_copyPiece 18 = .ok (.aload_n 0, 1) := by decide +kernel
theorem dX3_copyPiece_19 : decode cX3_copyPiece 19 = .ok (.getfield 33, 3) := by decide +kernel
theorem dX3_copyPiece_22 : decode cX3_copyPiece 22 = .ok (.iload 4, 2) := by decide +kernel
theorem dX3_copyPiece_24 : decode cX3_copyPiece 24 = .ok (.iaload, 1) := by decide +kernel
theorem dX3_copyPiece_25 : decode cX3_copyPiece 25 = .ok (.iload_n 1, 1) := by decide +kernel
theorem dX3_copyPiece_26 : decode cX3_copyPiece 26 = .ok (.if_icmp .ne 62, 3) := by decide +kernel
theorem dX3_copyPiece_29 : decode cX3_copyPiece 29 = .ok (.iload_n 2, 1) := by decide +kernel
theorem dX3_copyPiece_30 : decode cX3_copyPiece 30 = .ok (.ifCond .lt 58, 3) := by decide +kernel
theorem dX3_copyPiece_33 : decode cX3_copyPiece 33 = .ok (.iload_n 2, 1) := by decide +kernel
theorem dX3_copyPiece_34 : decode cX3_copyPiece 34 = .ok (.aload_n 0, 1) := by decide +kernel
theorem dX3_copyPiece_35 : decode cX3_copyPiece 35 = .ok (.getfield 36, 3) := by decide +kernel
theorem dX3_copyPiece_38 : decode cX3_copyPiece 38 = .ok (.iload 4, 2) := by decide +kernel
theorem dX3_copyPiece_40 : decode cX3_copyPiece 40 = .ok (.iaload, 1) := by decide +kernel
theorem dX3_copyPiece_41 : decode cX3_copyPiece 41 = .ok (.iconst 1, 1) := by decide +kernel
theorem dX3_copyPiece_42 : decode cX3_copyPiece 42 = .ok (.isub, 1) := by decide +kernel
theorem dX3_copyPiece_43 : decode cX3_copyPiece 43 = .ok (.bipush 64, 2) := by decide +kernel
theorem dX3_copyPiece_45 : decode cX3_copyPiece 45 = .ok (.idiv, 1) := by decide +kernel
theorem dX3_copyPiece_46 : decode cX3_copyPiece 46 = .ok (.if_icmp .gt 42, 3) := by decide +kernel
theorem dX3_copyPiece_49 : decode cX3_copyPiece 49 = .ok (.iload_n 2, 1) := by decide +kernel
theorem dX3_copyPiece_50 : decode cX3_copyPiece 50 = .ok (.bipush 64, 2) := by decide +kernel
theorem dX3_copyPiece_52 : decode cX3_copyPiece 52 = .ok (.imul, 1) := by decide +kernel
theorem dX3_copyPiece_53 : decode cX3_copyPiece 53 = .ok (.istore 5, 2) := by decide +kernel
theorem dX3_copyPiece_55 : decode cX3_copyPiece 55 = .ok (.aload_n 3, 1) := by decide +kernel
theorem dX3_copyPiece_56 : decode cX3_copyPiece 56 = .ok (.invokevirtual 82, 3) := by decide +kernel
theorem dX3_copyPiece_59 : decode cX3_copyPiece 59 = .ok (.aload_n 0, 1) := by decide +kernel
theorem dX3_copyPiece_60 : decode cX3_copyPiece 60 = .ok (.aload_n 3, 1) := by decide +kernel
theorem dX3_copyPiece_61 : decode cX3_copyPiece 61 = .ok (.iload 4, 2) := by decide +kernel
theorem dX3_copyPiece_63 : decode cX3_copyPiece 63 = .ok (.iload 5, 2) := by decide +kernel
theorem dX3_copyPiece_65 : decode cX3_copyPiece 65 = .ok (.iload 5, 2) := by decide +kernel
theorem dX3_copyPiece_67 : decode cX3_copyPiece 67 = .ok (.bipush 64, 2) := by decide +kernel
theorem dX3_copyPiece_69 : decode cX3_copyPiece 69 = .ok (.iadd, 1) := by decide +kernel
theorem dX3_copyPiece_70 : decode cX3_copyPiece 70 = .ok (.aload_n 0, 1) := by decide +kernel
theorem dX3_copyPiece_71 : decode cX3_copyPiece 71 = .ok (.getfield 36, 3) := by decide +kernel
theorem dX3_copyPiece_74 : decode cX3_copyPiece 74 = .ok (.iload 4, 2) := by decide +kernel
theorem dX3_copyPiece_76 : decode cX3_copyPiece 76 = .ok (.iaload, 1) := by decide +kernel
theorem dX3_copyPiece_77 : decode cX3_copyPiece 77 = .ok (.invokestatic 122, 3) := by decide +kernel
theorem dX3_copyPiece_80 : decode cX3_copyPiece 80 = .ok (.invokevirtual 85, 3) := by decide +kernel
theorem dX3_copyPiece_83 : decode cX3_copyPiece 83 = .ok (.aload_n 3, 1) := by decide +kernel
theorem dX3_copyPiece_84 : decode cX3_copyPiece 84 = .ok (.invokevirtual 106, 3) := by decide +kernel
theorem dX3_copyPiece_87 : decode cX3_copyPiece 87 = .ok (.ireturn, 1) := by decide +kernel
theorem dX3_copyPiece_88 : decode cX3_copyPiece 88 = .ok (.iinc 4 1, 3) := by decide +kernel
theorem dX3_copyPiece_91 : decode cX3_copyPiece 91 = .ok (.goto (-88), 3) := by decide +kernel
theorem dX3_copyPiece_94 : decode cX3_copyPiece 94 = .ok (.iconst (-1), 1) := by decide +kernel
theorem dX3_copyPiece_95 : decode cX3_copyPiece 95 = .ok (.ireturn, 1) := by decide +kernel
end
section
theorem dX4_init_0 : decode cX4_init 0 = .ok (.aload_n 0, 1) := by decide +kernel
theorem dX4_init_1 : decode cX4_init 1 = .ok (.invokespecial 3, 3) := by decide +kernel
theorem dX4_init_4 : decode cX4_init 4 = .ok (.aload_n 0, 1) := by decide +kernel
theorem dX4_init_5 : decode cX4_init 5 = .ok (.new 9, 3) := by decide +kernel
theorem dX4_init_8 : decode cX4_init 8 = .ok (.dup, 1) := by decide +kernel
theorem dX4_init_9 : decode cX4_init 9 = .ok (.bipush 75, 2) := by decide +kernel
theorem dX4_init_11 : decode cX4_init 11 = .ok (.invokespecial 11, 3) := by decide +kernel
theorem dX4_init_14 : decode cX4_init 14 = .ok (.putfield 14, 3) := by decide +kernel
theorem dX4_init_17 : decode cX4_init 17 = .ok (.aload_n 0, 1) := by decide +kernel
theorem dX4_init_18 : decode cX4_init 18 = .ok (.iconst 4, 1) := by decide +kernel
theorem dX4_init_19 : decode cX4_init 19 = .ok (.newarray .int, 2) := by decide +kernel
theorem dX4_init_21 : decode cX4_init 21 = .ok (.putfield 20, 3) := by decide +kernel
theorem dX4_init_24 : decode cX4_init 24 = .ok (.aload_n 0, 1) := by decide +kernel
theorem dX4_init_25 : decode cX4_init 25 = .ok (.iconst 4, 1) := by decide +kernel
theorem dX4_init_26 : decode cX4_init 26 = .ok (.newarray .int, 2) := by decide +kernel
theorem dX4_init_28 : decode cX4_init 28 = .ok (.putfield 24, 3) := by decide +kernel
theorem dX4_init_31 : decode cX4_init 31 = .ok (.aload_n 0, 1) := by decide +kernel
theorem dX4_init_32 : decode cX4_init 32 = .ok (.iconst 4, 1) := by decide +kernel
theorem dX4_init_33 : decode cX4_init 33 = .ok (.newarray .int, 2) := by decide +kernel
theorem dX4_init_35 : decode cX4_init 35 = .ok (.putfield 27, 3) := by decide +kernel
theorem dX4_init_38 : decode cX4_init 38 = .ok (.aload_n 0, 1) := by decide +kernel
theorem dX4_init_39 : decode cX4_init 39 = .ok (.iconst 4, 1) := by decide +kernel
theorem dX4_init_40 : decode cX4_init 40 = .ok (.newarray .int, 2) := by decide +kernel
theorem dX4_init_42 : decode cX4_init 42 = .ok (.putfield 30, 3) := by decide +kernel
theorem dX4_init_45 : decode cX4_init 45 = .ok (.aload_n 0, 1) := by decide +kernel
theorem dX4_init_46 : decode cX4_init 46 = .ok (.iconst 4, 1) := by decide +kernel
theorem dX4_init_47 : decode cX4_init 47 = .ok (.newarray .long, 2) := by decide +kernel
theorem dX4_init_49 : decode cX4_init 49 = .ok (.putfield 33, 3) := by decide +kernel
theorem dX4_init_52 : decode cX4_init 52 = .ok (.return_, 1) := by decide +kernel
theorem dX4_becomeFactoryRoot_0 : decode cX4_becomeFactoryRoot 0 = .ok (.aload_n 0, 1) := by decide +kernel
theorem dX4_becomeFactoryRoot_1 : decode cX4_becomeFactoryRoot 1 = .ok (.iconst 0, 1) := by decide +kernel
theorem dX4_becomeFactoryRoot_2 : decode cX4_becomeFactoryRoot 2 = .ok (.putfield 37, 3) := by decide +kernel
theorem dX4_becomeFactoryRoot_5 : decode cX4_becomeFactoryRoot 5 = .ok (.aload_n 0, 1) := by decide +kernel
theorem dX4_becomeFactoryRoot_6 : decode cX4_becomeFactoryRoot 6 = .ok (.iconst 1, 1) := by decide +kernel
theorem dX4_becomeFactoryRoot_7 : decode cX4_becomeFactoryRoot 7 = .ok (.putfield 41, 3) := by decide +kernel
theorem dX4_becomeFactoryRoot_10 : decode cX4_becomeFactoryRoot 10 = .ok (.aload_n 0, 1) := by decide +kernel
theorem dX4_becomeFactoryRoot_11 : decode cX4_becomeFactoryRoot 11 = .ok (.ldc2_w 44, 3) := by decide +kernel
theorem dX4_becomeFactoryRoot_14 : decode cX4_becomeFactoryRoot 14 = .ok (.putfield 46, 3) := by decide +kernel
theorem dX4_becomeFactoryRoot_17 : decode cX4_becomeFactoryRoot 17 = .ok (.aload_n 0, 1) := by decide +kernel
theorem dX4_becomeFactoryRoot_18 : decode cX4_becomeFactoryRoot 18 = .ok (.iconst 0, 1) := by decide +kernel
theorem dX4_becomeFactoryRoot_19 : decode cX4_becomeFactoryRoot 19 = .ok (.putfield 50, 3) := by decide +kernel
theorem dX4_becomeFactoryRoot_22 : decode cX4_becomeFactoryRoot 22 = .ok (.iconst 0, 1) := by decide +kernel
theorem dX4_becomeFactoryRoot_23 : decode cX4_becomeFactoryRoot 23 = .ok (.istore_n 1, 1) := by decide +kernel
theorem dX4_becomeFactoryRoot_24 : decode cX4_becomeFactoryRoot 24 = .ok (.iload_n 1, 1) := by decide +kernel
theorem dX4_becomeFactoryRoot_25 : decode cX4_becomeFactoryRoot 25 = .ok (.iconst 4, 1) := by decide +kernel
theorem dX4_becomeFactoryRoot_26 : decode cX4_becomeFactoryRoot 26 = .ok (.if_icmp .ge 31, 3) := by decide +kernel
theorem dX4_becomeFactoryRoot_29 : decode cX4_becomeFactoryRoot 29 = .ok (.aload_n 0, 1) := by decide +kernel
theorem dX4_becomeFactoryRoot_30 : decode cX4_becomeFactoryRoot 30 = .ok (.getfield 20, 3) := by decide +kernel
theorem dX4_becomeFactoryRoot_33 : decode cX4_becomeFactoryRoot 33 = .ok (.iload_n 1, 1) := by decide +kernel
theorem dX4_becomeFactoryRoot_34 : decode cX4_becomeFactoryRoot 34 = .ok (.getstatic 53, 3) := by decide +kernel
theorem dX4_becomeFactoryRoot_37 : decode cX4_becomeFactoryRoot 37 = .ok (.iload_n 1, 1) := by decide +kernel
theorem dX4_becomeFactoryRoot_38 : decode cX4_becomeFactoryRoot 38 = .ok (.iaload, 1) := by decide +kernel
theorem dX4_becomeFactoryRoot_39 : decode cX4_becomeFactoryRoot 39 = .ok (.iastore, 1) := by decide +kernel
theorem dX4_becomeFactoryRoot_40 : decode cX4_becomeFactoryRoot 40 = .ok (.aload_n 0, 1) := by decide +kernel
theorem dX4_becomeFactoryRoot_41 : decode cX4_becomeFactoryRoot 41 = .ok (.getfield 24, 3) := by decide +kernel
theorem dX4_becomeFactoryRoot_44 : decode cX4_becomeFactoryRoot 44 = .ok (.iload_n 1, 1) := by decide +kernel
theorem dX4_becomeFactoryRoot_45 : decode cX4_becomeFactoryRoot 45 = .ok (.getstatic 56, 3) := by decide +kernel
theorem dX4_becomeFactoryRoot_48 : decode cX4_becomeFactoryRoot 48 = .ok (.iload_n 1, 1) := by decide +kernel
theorem dX4_becomeFactoryRoot_49 : decode cX4_becomeFactoryRoot 49 = .ok (.iaload, 1) := by decide +kernel
theorem dX4_becomeFactoryRoot_50 : decode cX4_becomeFactoryRoot 50 = .ok (.iastore, 1) := by decide +kernel
theorem dX4_becomeFactoryRoot_51 : decode cX4_becomeFactoryRoot 51 = .ok (.iinc 1 1, 3) := by decide +kernel
theorem dX4_becomeFactoryRoot_54 : decode cX4_becomeFactoryRoot 54 = .ok (.goto (-30), 3) := by decide +kernel
theorem dX4_becomeFactoryRoot_57 : decode cX4_becomeFactoryRoot 57 = .ok (.return_, 1) := by decide +kernel
theorem dX4_read_0 : decode cX4_read 0 = .ok (.iload_n 3, 1) := by decide +kernel
theorem dX4_read_1 : decode cX4_read 1 = .ok (.bipush 10, 2) := by decide +kernel
theorem dX4_read_3 : decode cX4_read 3 = .ok (.if_icmp .lt 9, 3) := by decide +kernel
theorem dX4_read_6 : decode cX4_read 6 = .ok (.iload_n 3, 1) := by decide +kernel
theorem dX4_read_7 : decode cX4_read 7 = .ok (.bipush 75, 2) := by decide +kernel
theorem dX4_read_9 : decode cX4_read 9 = .ok (.if_icmp .le 5, 3) := by decide +kernel
theorem dX4_read_12 : decode cX4_read 12 = .ok (.iconst 0, 1) := by decide +kernel
theorem dX4_read_13 : decode cX4_read 13 = .ok (.ireturn, 1) := by decide +kernel
theorem dX4_read_14 : decode cX4_read 14 = .ok (.aload_n 0, 1) := by decide +kernel
theorem dX4_read_15 : decode cX4_read 15 = .ok (.getfield 14, 3) := by decide +kernel
theorem dX4_read_18 : decode cX4_read 18 = .ok (.invokevirtual 59, 3) := by decide +kernel
theorem dX4_read_21 : decode cX4_read 21 = .ok (.aload_n 0, 1) := by decide +kernel
theorem dX4_read_22 : decode cX4_read 22 = .ok (.getfield 14, 3) := by decide +kernel
theorem dX4_read_25 : decode cX4_read 25 = .ok (.aload_n 1, 1) := by decide +kernel
theorem dX4_read_26 : decode cX4_read 26 = .ok (.iload_n 2, 1) := by decide +kernel
theorem dX4_read_27 : decode cX4_read 27 = .ok (.iload_n 3, 1) := by decide +kernel
theorem dX4_read_28 : decode cX4_read 28 = .ok (.invokevirtual 62, 3) := by decide +kernel
theorem dX4_read_31 : decode cX4_read 31 = .ok (.aload_n 0, 1) := by decide +kernel
theorem dX4_read_32 : decode cX4_read 32 = .ok (.aload_n 0, 1) := by decide +kernel
theorem dX4_read_33 : decode cX4_read 33 = .ok (.getfield 14, 3) := by decide +kernel
theorem dX4_read_36 : decode cX4_read 36 = .ok (.iconst 0, 1) := by decide +kernel
theorem dX4_read_37 : decode cX4_read 37 = .ok (.invokevirtual 66, 3) := by decide +kernel
theorem dX4_read_40 : decode cX4_read 40 = .ok (.putfield 37, 3) := by decide +kernel
theorem dX4_read_43 : decode cX4_read 43 = .ok (.aload_n 0, 1) := by decide +kernel
theorem dX4_read_44 : decode cX4_read 44 = .ok (.aload_n 0, 1) := by decide +kernel
theorem dX4_read_45 : decode cX4_read 45 = .ok (.getfield 14, 3) := by decide +kernel
theorem dX4_read_48 : decode cX4_read 48 = .ok (.iconst 1, 1) := by decide +kernel
theorem dX4_read_49 : decode cX4_read 49 = .ok (.iconst 2, 1) := by decide +kernel
theorem dX4_read_50 : decode cX4_read 50 = .ok (.invokevirtual 70, 3) := by decide +kernel
theorem dX4_read_53 : decode cX4_read 53 = .ok (.l2i, 1) := by decide +kernel
theorem dX4_read_54 : decode cX4_read 54 = .ok (.putfield 74, 3) := by decide +kernel
theorem dX4_read_57 : decode cX4_read 57 = .ok (.aload_n 0, 1) := by decide +kernel
theorem dX4_read_58 : decode cX4_read 58 = .ok (.invokevirtual 77, 3) := by decide +kernel
theorem dX4_read_61 : decode cX4_read 61 = .ok (.ifCond .eq 10, 3) := by decide +kernel
theorem dX4_read_64 : decode cX4_read 64 = .ok (.aload_n 0, 1) := by decide +kernel
theorem dX4_read_65 : decode cX4_read 65 = .ok (.invokevirtual 81, 3) := by decide +kernel
theorem dX4_read_68 : decode cX4_read 68 = .ok (.ifCond .ne 5, 3) := by decide +kernel
theorem dX4_read_71 : decode cX4_read 71 = .ok (.iconst 0, 1) := by decide +kernel
theorem dX4_read_72 : decode cX4_read 72 = .ok (.ireturn, 1) := by decide +kernel
theorem dX4_read_73 : decode cX4_read 73 = .ok (.aload_n 0, 1) := by decide +kernel
theorem dX4_read_74 : decode cX4_read 74 = .ok (.aload_n 0, 1) := by decide +kernel
theorem dX4_read_75 : decode cX4_read 75 = .ok (.getfield 14, 3) := by decide +kernel
theorem dX4_read_78 : decode cX4_read 78 = .ok (.iconst 3, 1) := by decide +kernel
theorem dX4_read_79 : decode cX4_read 79 = .ok (.aload_n 0, 1) := by decide +kernel
theorem dX4_read_80 : decode cX4_read 80 = .ok (.getfield 74, 3) := by decide +kernel
theorem dX4_read_83 : decode cX4_read 83 = .ok (.invokevirtual 84, 3) := by decide +kernel
theorem dX4_read_86 : decode cX4_read 86 = .ok (.putfield 87, 3) := by decide +kernel
theorem dX4_read_89 : decode cX4_read 89 = .ok (.aload_n 0, 1) := by decide +kernel
theorem dX4_read_90 : decode cX4_read 90 = .ok (.getfield 37, 3) := by decide +kernel
theorem dX4_read_93 : decode cX4_read 93 = .ok (.tableswitch 46 0 3 #[31, 36, 36, 41], 31) := by decide +kernel
theorem dX4_read_124 : decode cX4_read 124 = .ok (.aload_n 0, 1) := by decide +kernel
theorem dX4_read_125 : decode cX4_read 125 = .ok (.invokevirtual 90, 3) := by decide +kernel
theorem dX4_read_128 : decode cX4_read 128 = .ok (.ireturn, 1) := by decide +kernel
theorem dX4_read_129 : decode cX4_read 129 = .ok (.aload_n 0, 1) := by decide +kernel
theorem dX4_read_130 : decode cX4_read 130 = .ok (.invokevirtual 93, 3) := by decide +kernel
theorem dX4_read_133 : decode cX4_read 133 = .ok (.ireturn, 1) := by decide +kernel
theorem dX4_read_134 : decode cX4_read 134 = .ok (.aload_n 0, 1) := by decide +kernel
theorem dX4_read_135 : decode cX4_read 135 = .ok (.invokevirtual 96, 3) := by decide +kernel
theorem dX4_read_138 : decode cX4_read 138 = .ok (.ireturn, 1) := by decide +kernel
theorem dX4_read_139 : decode cX4_read 139 = .ok (.iconst 0, 1) := by decide +kernel
theorem dX4_read_140 : decode cX4_read 140 = .ok (.ireturn, 1) := by decide +kernel
theorem dX4_readHead_0 : decode cX4_readHead 0 = .ok (.aload_n 0, 1) := by decide +kernel
theorem dX4_readHead_1 : decode cX4_readHead 1 = .ok (.getfield 74, 3) := by decide +kernel
theorem dX4_readHead_4 : decode cX4_readHead 4 = .ok (.bipush 6, 2) := by decide +kernel
theorem dX4_readHead_6 : decode cX4_readHead 6 = .ok (.if_icmp .lt 19, 3) := by decide +kernel
theorem dX4_readHead_9 : decode cX4_readHead 9 = .ok (.iconst 3, 1) := by decide +kernel
theorem dX4_readHead_10 : decode cX4_readHead 10 = .ok (.aload_n 0, 1) := by decide +kernel
theorem dX4_readHead_11 : decode cX4_readHead 11 = .ok (.getfield 74, 3) := by decide +kernel
theorem dX4_readHead_14 : decode cX4_readHead 14 = .ok (.iadd, 1) := by decide +kernel
theorem dX4_readHead_15 : decode cX4_readHead 15 = .ok (.aload_n 0, 1) := by decide +kernel
theorem dX4_readHead_16 : decode cX4_readHead 16 = .ok (.getfield 14, 3) := by decide +kernel
theorem dX4_readHead_19 : decode cX4_readHead 19 = .ok (.invokevirtual 99, 3) := by decide +kernel
theorem dX4_readHead_22 : decode cX4_readHead 22 = .ok (.if_icmp .lt 5, 3) := by decide +kernel
theorem dX4_readHead_25 : decode cX4_readHead 25 = .ok (.iconst 0, 1) := by decide +kernel
theorem dX4_readHead_26 : decode cX4_readHead 26 = .ok (.ireturn, 1) := by decide +kernel
theorem dX4_readHead_27 : decode cX4_readHead 27 = .ok (.aload_n 0, 1) := by decide +kernel
theorem dX4_readHead_28 : decode cX4_readHead 28 = .ok (.aload_n 0, 1) := by decide +kernel
theorem dX4_readHead_29 : decode cX4_readHead 29 = .ok (.getfield 14, 3) := by decide +kernel
theorem dX4_readHead_32 : decode cX4_readHead 32 = .ok (.iconst 3, 1) := by decide +kernel
theorem dX4_readHead_33 : decode cX4_readHead 33 = .ok (.iconst 2, 1) := by decide +kernel
theorem dX4_readHead_34 : decode cX4_readHead 34 = .ok (.invokevirtual 70, 3) := by decide +kernel
theorem dX4_readHead_37 : decode cX4_readHead 37 = .ok (.l2i, 1) := by decide +kernel
theorem dX4_readHead_38 : decode cX4_readHead 38 = .ok (.putfield 41, 3) := by decide +kernel
theorem dX4_readHead_41 : decode cX4_readHead 41 = .ok (.aload_n 0, 1) := by decide +kernel
theorem dX4_readHead_42 : decode cX4_readHead 42 = .ok (.aload_n 0, 1) := by decide +kernel
theorem dX4_readHead_43 : decode cX4_readHead 43 = .ok (.getfield 14, 3) := by decide +kernel
theorem dX4_readHead_46 : decode cX4_readHead 46 = .ok (.iconst 5, 1) := by decide +kernel
theorem dX4_readHead_47 : decode cX4_readHead 47 = .ok (.iconst 4, 1) := by decide +kernel
theorem dX4_readHead_48 : decode cX4_readHead 48 = .ok (.invokevirtual 70, 3) := by decide +kernel
theorem dX4_readHead_51 : decode cX4_readHead 51 = .ok (.putfield 46, 3) := by decide +kernel
theorem dX4_readHead_54 : decode cX4_readHead 54 = .ok (.aload_n 0, 1) := by decide +kernel
theorem dX4_readHead_55 : decode cX4_readHead 55 = .ok (.getfield 41, 3) := by decide +kernel
theorem dX4_readHead_58 : decode cX4_readHead 58 = .ok (.ifCond .le 7, 3) := by decide +kernel
theorem dX4_readHead_61 : decode cX4_readHead 61 = .ok (.iconst 1, 1) := by decide +kernel
theorem dX4_readHead_62 : decode cX4_readHead 62 = .ok (.goto 4, 3) := by decide +kernel
theorem dX4_readHead_65 : decode cX4_readHead 65 = .ok (.iconst 0, 1) := by decide +kernel
theorem dX4_readHead_66 : decode cX4_readHead 66 = .ok (.ireturn, 1) := by decide +kernel
theorem dX4_readKeys_0 : decode cX4_readKeys 0 = .ok (.iconst 3, 1) := by decide +kernel
theorem dX4_readKeys_1 : decode cX4_readKeys 1 = .ok (.aload_n 0, 1) := by decide +kernel
theorem dX4_readKeys_2 : decode cX4_readKeys 2 = .ok (.getfield 74, 3) := by decide +kernel
theorem dX4_readKeys_5 : decode cX4_readKeys 5 = .ok (.iadd, 1) := by decide +kernel
theorem dX4_readKeys_6 : decode cX4_readKeys 6 = .ok (.istore_n 1, 1) := by decide +kernel
theorem dX4_readKeys_7 : decode cX4_readKeys 7 = .ok (.aload_n 0, 1) := by decide +kernel
theorem dX4_readKeys_8 : decode cX4_readKeys 8 = .ok (.getfield 14, 3) := by decide +kernel
theorem dX4_readKeys_11 : decode cX4_readKeys 11 = .ok (.iload_n 1, 1) := by decide +kernel
theorem dX4_readKeys_12 : decode cX4_readKeys 12 = .ok (.invokevirtual 66, 3) := by decide +kernel
theorem dX4_readKeys_15 : decode cX4_readKeys 15 = .ok (.istore_n 2, 1) := by decide +kernel
theorem dX4_readKeys_16 : decode cX4_readKeys 16 = .ok (.aload_n 0, 1) := by decide +kernel
theorem dX4_readKeys_17 : decode cX4_readKeys 17 = .ok (.aload_n 0, 1) := by decide +kernel
theorem dX4_readKeys_18 : decode cX4_readKeys 18 = .ok (.getfield 14, 3) := by decide +kernel
theorem dX4_readKeys_21 : decode cX4_readKeys 21 = .ok (.iload_n 1, 1) := by decide +kernel
theorem dX4_readKeys_22 : decode cX4_readKeys 22 = .ok (.iconst 1, 1) := by decide +kernel
theorem dX4_readKeys_23 : decode cX4_readKeys 23 = .ok (.iadd, 1) := by decide +kernel
theorem dX4_readKeys_24 : decode cX4_readKeys 24 = .ok (.iload_n 2, 1) := by decide +kernel
theorem dX4_readKeys_25 : decode cX4_readKeys 25 = .ok (.invokevirtual 103, 3) := by decide +kernel
theorem dX4_readKeys_28 : decode cX4_readKeys 28 = .ok (.putfield 50, 3) := by decide +kernel
theorem dX4_readKeys_31 : decode cX4_readKeys 31 = .ok (.aload_n 0, 1) := by decide +kernel
theorem dX4_readKeys_32 : decode cX4_readKeys 32 = .ok (.getfield 50, 3) := by decide +kernel
theorem dX4_readKeys_35 : decode cX4_readKeys 35 = .ok (.ifCond .lt 22, 3) := by decide +kernel
theorem dX4_readKeys_38 : decode cX4_readKeys 38 = .ok (.iload_n 1, 1) := by decide +kernel
theorem dX4_readKeys_39 : decode cX4_readKeys 39 = .ok (.iconst 1, 1) := by decide +kernel
theorem dX4_readKeys_40 : decode cX4_readKeys 40 = .ok (.iadd, 1) := by decide +kernel
theorem dX4_readKeys_41 : decode cX4_readKeys 41 = .ok (.iload_n 2, 1) := by decide +kernel
theorem dX4_readKeys_42 : decode cX4_readKeys 42 = .ok (.iadd, 1) := by decide +kernel
theorem dX4_readKeys_43 : decode cX4_readKeys 43 = .ok (.aload_n 0, 1) := by decide +kernel
theorem dX4_readKeys_44 : decode cX4_readKeys 44 = .ok (.getfield 14, 3) := by decide +kernel
theorem dX4_readKeys_47 : decode cX4_readKeys 47 = .ok (.invokevirtual 99, 3) := by decide +kernel
theorem dX4_readKeys_50 : decode cX4_readKeys 50 = .ok (.if_icmp .ne 7, 3) := by decide +kernel
theorem dX4_readKeys_53 : decode cX4_readKeys 53 = .ok (.iconst 1, 1) := by decide +kernel
theorem dX4_readKeys_54 : decode cX4_readKeys 54 = .ok (.goto 4, 3) := by decide +kernel
theorem dX4_readKeys_57 : decode cX4_readKeys 57 = .ok (.iconst 0, 1) := by decide +kernel
theorem dX4_readKeys_58 : decode cX4_readKeys 58 = .ok (.ireturn, 1) := by decide +kernel
theorem dX4_readRoot_0 : decode cX4_readRoot 0 = .ok (.bipush 9, 2) := by decide +kernel
theorem dX4_readRoot_2 : decode cX4_readRoot 2 = .ok (.istore_n 1, 1) := by decide +kernel
theorem dX4_readRoot_3 : decode cX4_readRoot 3 = .ok (.iconst 3, 1) := by decide +kernel
theorem dX4_readRoot_4 : decode cX4_readRoot 4 = .ok (.aload_n 0, 1) := by decide +kernel
theorem dX4_readRoot_5 : decode cX4_readRoot 5 = .ok (.getfield 74, 3) := by decide +kernel
theorem dX4_readRoot_8 : decode cX4_readRoot 8 = .ok (.iadd, 1) := by decide +kernel
theorem dX4_readRoot_9 : decode cX4_readRoot 9 = .ok (.istore_n 2, 1) := by decide +kernel
theorem dX4_readRoot_10 : decode cX4_readRoot 10 = .ok (.iconst 0, 1) := by decide +kernel
theorem dX4_readRoot_11 : decode cX4_readRoot 11 = .ok (.istore_n 3, 1) := by decide +kernel
theorem dX4_readRoot_12 : decode cX4_readRoot 12 = .ok (.iload_n 3, 1) := by decide +kernel
theorem dX4_readRoot_13 : decode cX4_readRoot 13 = .ok (.iconst 4, 1) := by decide +kernel
theorem dX4_readRoot_14 : decode cX4_readRoot 14 = .ok (.if_icmp .ge 119, 3) := by decide +kernel
theorem dX4_readRoot_17 : decode cX4_readRoot 17 = .ok (.iload_n 1, 1) := by decide +kernel
theorem dX4_readRoot_18 : decode cX4_readRoot 18 = .ok (.iconst 2, 1) := by decide +kernel
theorem dX4_readRoot_19 : decode cX4_readRoot 19 = .ok (.iadd, 1) := by decide +kernel
theorem dX4_readRoot_20 : decode cX4_readRoot 20 = .ok (.iload_n 2, 1) := by decide +kernel
theorem dX4_readRoot_21 : decode cX4_readRoot 21 = .ok (.if_icmp .le 5, 3) := by decide +kernel
theorem dX4_readRoot_24 : decode cX4_readRoot 24 = .ok (.iconst 0, 1) := by decide +kernel
theorem dX4_readRoot_25 : decode cX4_readRoot 25 = .ok (.ireturn, 1) := by decide +kernel
theorem dX4_readRoot_26 : decode cX4_readRoot 26 = .ok (.aload_n 0, 1) := by decide +kernel
theorem dX4_readRoot_27 : decode cX4_readRoot 27 = .ok (.getfield 14, 3) := by decide +kernel
theorem dX4_readRoot_30 : decode cX4_readRoot 30 = .ok (.iload_n 1, 1) := by decide +kernel
theorem dX4_readRoot_31 : decode cX4_readRoot 31 = .ok (.iconst 1, 1) := by decide +kernel
theorem dX4_readRoot_32 : decode cX4_readRoot 32 = .ok (.iadd, 1) := by decide +kernel
theorem dX4_readRoot_33 : decode cX4_readRoot 33 = .ok (.invokevirtual 66, 3) := by decide +kernel
theorem dX4_readRoot_36 : decode cX4_readRoot 36 = .ok (.istore 4, 2) := by decide +kernel
theorem dX4_readRoot_38 : decode cX4_readRoot 38 = .ok (.iload 4, 2) := by decide +kernel
theorem dX4_readRoot_40 : decode cX4_readRoot 40 = .ok (.iconst 5, 1) := by decide +kernel
theorem dX4_readRoot_41 : decode cX4_readRoot 41 = .ok (.if_icmp .gt 13, 3) := by decide +kernel
theorem dX4_readRoot_44 : decode cX4_readRoot 44 = .ok (.iload_n 1, 1) := by decide +kernel
theorem dX4_readRoot_45 : decode cX4_readRoot 45 = .ok (.iconst 2, 1) := by decide +kernel
theorem dX4_readRoot_46 : decode cX4_readRoot 46 = .ok (.iadd, 1) := by decide +kernel
theorem dX4_readRoot_47 : decode cX4_readRoot 47 = .ok (.iload 4, 2) := by decide +kernel
theorem dX4_readRoot_49 : decode cX4_readRoot 49 = .ok (.iadd, 1) := by decide +kernel
theorem dX4_readRoot_50 : decode cX4_readRoot 50 = .ok (.iload_n 2, 1) := by decide +kernel
theorem dX4_readRoot_51 : decode cX4_readRoot 51 = .ok (.if_icmp .le 5, 3) := by decide +kernel
theorem dX4_readRoot_54 : decode cX4_readRoot 54 = .ok (.iconst 0, 1) := by decide +kernel
theorem dX4_readRoot_55 : decode cX4_readRoot 55 = .ok (.ireturn, 1) := by decide +kernel
theorem dX4_readRoot_56 : decode cX4_readRoot 56 = .ok (.aload_n 0, 1) := by decide +kernel
theorem dX4_readRoot_57 : decode cX4_readRoot 57 = .ok (.getfield 24, 3) := by decide +kernel
theorem dX4_readRoot_60 : decode cX4_readRoot 60 = .ok (.iload_n 3, 1) := by decide +kernel
theorem dX4_readRoot_61 : decode cX4_readRoot 61 = .ok (.aload_n 0, 1) := by decide +kernel
theorem dX4_readRoot_62 : decode cX4_readRoot 62 = .ok (.getfield 14, 3) := by decide +kernel
theorem dX4_readRoot_65 : decode cX4_readRoot 65 = .ok (.iload_n 1, 1) := by decide +kernel
theorem dX4_readRoot_66 : decode cX4_readRoot 66 = .ok (.invokevirtual 66, 3) := by decide +kernel
theorem dX4_readRoot_69 : decode cX4_readRoot 69 = .ok (.iastore, 1) := by decide +kernel
theorem dX4_readRoot_70 : decode cX4_readRoot 70 = .ok (.aload_n 0, 1) := by decide +kernel
theorem dX4_readRoot_71 : decode cX4_readRoot 71 = .ok (.getfield 20, 3) := by decide +kernel
theorem dX4_readRoot_74 : decode cX4_readRoot 74 = .ok (.iload_n 3, 1) := by decide +kernel
theorem dX4_readRoot_75 : decode cX4_readRoot 75 = .ok (.aload_n 0, 1) := by decide +kernel
theorem dX4_readRoot_76 : decode cX4_readRoot 76 = .ok (.getfield 14, 3) := by decide +kernel
theorem dX4_readRoot_79 : decode cX4_readRoot 79 = .ok (.iload_n 1, 1) := by decide +kernel
theorem dX4_readRoot_80 : decode cX4_readRoot 80 = .ok (.iconst 2, 1) := by decide +kernel
theorem dX4_readRoot_81 : decode cX4_readRoot 81 = .ok (.iadd, 1) := by decide +kernel
theorem dX4_readRoot_82 : decode cX4_readRoot 82 = .ok (.iload 4, 2) := by decide +kernel
theorem dX4_readRoot_84 : decode cX4_readRoot 84 = .ok (.invokevirtual 103, 3) := by decide +kernel
theorem dX4_readRoot_87 : decode cX4_readRoot 87 = .ok (.iastore, 1) := by decide +kernel
theorem dX4_readRoot_88 : decode cX4_readRoot 88 = .ok (.aload_n 0, 1) := by decide +kernel
theorem dX4_readRoot_89 : decode cX4_readRoot 89 = .ok (.getfield 20, 3) := by decide +kernel
theorem dX4_readRoot_92 : decode cX4_readRoot 92 = .ok (.iload_n 3, 1) := by decide +kernel
theorem dX4_readRoot_93 : decode cX4_readRoot 93 = .ok (.iaload, 1) := by decide +kernel
theorem dX4_readRoot_94 : decode cX4_readRoot 94 = .ok (.ifCond .lt 24, 3) := by decide +kernel
theorem dX4_readRoot_97 : decode cX4_readRoot 97 = .ok (.aload_n 0, 1) := by decide +kernel
theorem dX4_readRoot_98 : decode cX4_readRoot 98 = .ok (.getfield 24, 3) := by decide +kernel
theorem dX4_readRoot_101 : decode cX4_readRoot 101 = .ok (.iload_n 3, 1) := by decide +kernel
theorem dX4_readRoot_102 : decode cX4_readRoot 102 = .ok (.iaload, 1) := by decide +kernel
theorem dX4_readRoot_103 : decode cX4_readRoot 103 = .ok (.iconst 1, 1) := by decide +kernel
theorem dX4_readRoot_104 : decode cX4_readRoot 104 = .ok (.if_icmp .lt 14, 3) := by decide +kernel
theorem dX4_readRoot_107 : decode cX4_readRoot 107 = .ok (.aload_n 0, 1) := by decide +kernel
theorem dX4_readRoot_108 : decode cX4_readRoot 108 = .ok (.getfield 24, 3) := by decide +kernel
theorem dX4_readRoot_111 : decode cX4_readRoot 111 = .ok (.iload_n 3, 1) := by decide +kernel
theorem dX4_readRoot_112 : decode cX4_readRoot 112 = .ok (.iaload, 1) := by decide +kernel
theorem dX4_readRoot_113 : decode cX4_readRoot 113 = .ok (.iload 4, 2) := by decide +kernel
theorem dX4_readRoot_115 : decode cX4_readRoot 115 = .ok (.if_icmp .le 5, 3) := by decide +kernel
theorem dX4_readRoot_118 : decode cX4_readRoot 118 = .ok (.iconst 0, 1) := by decide +kernel
theorem dX4_readRoot_119 : decode cX4_readRoot 119 = .ok (.ireturn, 1) := by decide +kernel
theorem dX4_readRoot_120 : decode cX4_readRoot 120 = .ok (.iload_n 1, 1) := by decide +kernel
theorem dX4_readRoot_121 : decode cX4_readRoot 121 = .ok (.iconst 2, 1) := by decide +kernel
theorem dX4_readRoot_122 : decode cX4_readRoot 122 = .ok (.iload 4, 2) := by decide +kernel
theorem dX4_readRoot_124 : decode cX4_readRoot 124 = .ok (.iadd, 1) := by decide +kernel
theorem dX4_readRoot_125 : decode cX4_readRoot 125 = .ok (.iadd, 1) := by decide +kernel
theorem dX4_readRoot_126 : decode cX4_readRoot 126 = .ok (.istore_n 1, 1) := by decide +kernel
theorem dX4_readRoot_127 : decode cX4_readRoot 127 = .ok (.iinc 3 1, 3) := by decide +kernel
theorem dX4_readRoot_130 : decode cX4_readRoot 130 = .ok (.goto (-118), 3) := by decide +kernel
theorem dX4_readRoot_133 : decode cX4_readRoot 133 = .ok (.iload_n 1, 1) := by decide +kernel
theorem dX4_readRoot_134 : decode cX4_readRoot 134 = .ok (.iload_n 2, 1) := by decide +kernel
theorem dX4_readRoot_135 : decode cX4_readRoot 135 = .ok (.if_icmp .ne 7, 3) := by decide +kernel
theorem dX4_readRoot_138 : decode cX4_readRoot 138 = .ok (.iconst 1, 1) := by decide +kernel
theorem dX4_readRoot_139 : decode cX4_readRoot 139 = .ok (.goto 4, 3) := by decide +kernel
theorem dX4_readRoot_142 : decode cX4_readRoot 142 = .ok (.iconst 0, 1) := by decide +kernel
theorem dX4_readRoot_143 : decode cX4_readRoot 143 = .ok (.ireturn, 1) := by decide +kernel
theorem dX4_readTold_0 : decode cX4_readTold 0 = .ok (.aload_n 0, 1) := by decide +kernel
theorem dX4_readTold_1 : decode cX4_readTold 1 = .ok (.getfield 74, 3) := by decide +kernel
theorem dX4_readTold_4 : decode cX4_readTold 4 = .ok (.bipush 16, 2) := by decide +kernel
theorem dX4_readTold_6 : decode cX4_readTold 6 = .ok (.if_icmp .eq 5, 3) := by decide +kernel
theorem dX4_readTold_9 : decode cX4_readTold 9 = .ok (.iconst 0, 1) := by decide +kernel
theorem dX4_readTold_10 : decode cX4_readTold 10 = .ok (.ireturn, 1) := by decide +kernel
theorem dX4_readTold_11 : decode cX4_readTold 11 = .ok (.aload_n 0, 1) := by decide +kernel
theorem dX4_readTold_12 : decode cX4_readTold 12 = .ok (.aload_n 0, 1) := by decide +kernel
theorem dX4_readTold_13 : decode cX4_readTold 13 = .ok (.getfield 14, 3) := by decide +kernel
theorem dX4_readTold_16 : decode cX4_readTold 16 = .ok (.bipush 9, 2) := by decide +kernel
theorem dX4_readTold_18 : decode cX4_readTold 18 = .ok (.iconst 2, 1) := by decide +kernel
theorem dX4_readTold_19 : decode cX4_readTold 19 = .ok (.invokevirtual 70, 3) := by decide +kernel
theorem dX4_readTold_22 : decode cX4_readTold 22 = .ok (.l2i, 1) := by decide +kernel
theorem dX4_readTold_23 : decode cX4_readTold 23 = .ok (.putfield 107, 3) := by decide +kernel
theorem dX4_readTold_26 : decode cX4_readTold 26 = .ok (.aload_n 0, 1) := by decide +kernel
theorem dX4_readTold_27 : decode cX4_readTold 27 = .ok (.aload_n 0, 1) := by decide +kernel
theorem dX4_readTold_28 : decode cX4_readTold 28 = .ok (.getfield 14, 3) := by decide +kernel
theorem dX4_readTold_31 : decode cX4_readTold 31 = .ok (.bipush 11, 2) := by decide +kernel
theorem dX4_readTold_33 : decode cX4_readTold 33 = .ok (.bipush 8, 2) := by decide +kernel
theorem dX4_readTold_35 : decode cX4_readTold 35 = .ok (.invokevirtual 70, 3) := by decide +kernel
theorem dX4_readTold_38 : decode cX4_readTold 38 = .ok (.putfield 110, 3) := by decide +kernel
theorem dX4_readTold_41 : decode cX4_readTold 41 = .ok (.aload_n 0, 1) := by decide +kernel
theorem dX4_readTold_42 : decode cX4_readTold 42 = .ok (.getfield 107, 3) := by decide +kernel
theorem dX4_readTold_45 : decode cX4_readTold 45 = .ok (.ifCond .le 7, 3) := by decide +kernel
theorem dX4_readTold_48 : decode cX4_readTold 48 = .ok (.iconst 1, 1) := by decide +kernel
theorem dX4_readTold_49 : decode cX4_readTold 49 = .ok (.goto 4, 3) := by decide +kernel
theorem dX4_readTold_52 : decode cX4_readTold 52 = .ok (.iconst 0, 1) := by decide +kernel
theorem dX4_readTold_53 : decode cX4_readTold 53 = .ok (.ireturn, 1) := by decide +kernel
theorem dX4_readImages_0 : decode cX4_readImages 0 = .ok (.aload_n 0, 1) := by decide +kernel
theorem dX4_readImages_1 : decode cX4_readImages 1 = .ok (.aload_n 0, 1) := by decide +kernel
theorem dX4_readImages_2 : decode cX4_readImages 2 = .ok (.getfield 74, 3) := by decide +kernel
theorem dX4_readImages_5 : decode cX4_readImages 5 = .ok (.bipush 6, 2) := by decide +kernel
theorem dX4_readImages_7 : decode cX4_readImages 7 = .ok (.if_icmp .le 15, 3) := by decide +kernel
theorem dX4_readImages_10 : decode cX4_readImages 10 = .ok (.aload_n 0, 1) := by decide +kernel
theorem dX4_readImages_11 : decode cX4_readImages 11 = .ok (.getfield 14, 3) := by decide +kernel
theorem dX4_readImages_14 : decode cX4_readImages 14 = .ok (.bipush 9, 2) := by decide +kernel
theorem dX4_readImages_16 : decode cX4_readImages 16 = .ok (.invokevirtual 66, 3) := by decide +kernel
theorem dX4_readImages_19 : decode cX4_readImages 19 = .ok (.goto 4, 3) := by decide +kernel
theorem dX4_readImages_22 : decode cX4_readImages 22 = .ok (.iconst (-1), 1) := by decide +kernel
theorem dX4_readImages_23 : decode cX4_readImages 23 = .ok (.putfield 113, 3) := by decide +kernel
theorem dX4_readImages_26 : decode cX4_readImages 26 = .ok (.aload_n 0, 1) := by decide +kernel
theorem dX4_readImages_27 : decode cX4_readImages 27 = .ok (.getfield 113, 3) := by decide +kernel
theorem dX4_readImages_30 : decode cX4_readImages 30 = .ok (.ifCond .lt 28, 3) := by decide +kernel
theorem dX4_readImages_33 : decode cX4_readImages 33 = .ok (.aload_n 0, 1) := by decide +kernel
theorem dX4_readImages_34 : decode cX4_readImages 34 = .ok (.getfield 113, 3) := by decide +kernel
theorem dX4_readImages_37 : decode cX4_readImages 37 = .ok (.iconst 4, 1) := by decide +kernel
theorem dX4_readImages_38 : decode cX4_readImages 38 = .ok (.if_icmp .gt 20, 3) := by decide +kernel
theorem dX4_readImages_41 : decode cX4_readImages 41 = .ok (.aload_n 0, 1) := by decide +kernel
theorem dX4_readImages_42 : decode cX4_readImages 42 = .ok (.getfield 74, 3) := by decide +kernel
theorem dX4_readImages_45 : decode cX4_readImages 45 = .ok (.bipush 7, 2) := by decide +kernel
theorem dX4_readImages_47 : decode cX4_readImages 47 = .ok (.aload_n 0, 1) := by decide +kernel
theorem dX4_readImages_48 : decode cX4_readImages 48 = .ok (.getfield 113, 3) := by decide +kernel
theorem dX4_readImages_51 : decode cX4_readImages 51 = .ok (.bipush 12, 2) := by decide +kernel
theorem dX4_readImages_53 : decode cX4_readImages 53 = .ok (.imul, 1) := by decide +kernel
theorem dX4_readImages_54 : decode cX4_readImages 54 = .ok (.iadd, 1) := by decide +kernel
theorem dX4_readImages_55 : decode cX4_readImages 55 = .ok (.if_icmp .eq 5, 3) := by decide +kernel
theorem dX4_readImages_58 : decode cX4_readImages 58 = .ok (.iconst 0, 1) := by decide +kernel
theorem dX4_readImages_59 : decode cX4_readImages 59 = .ok (.ireturn, 1) := by decide +kernel
theorem dX4_readImages_60 : decode cX4_readImages 60 = .ok (.iconst 0, 1) := by decide +kernel
theorem dX4_readImages_61 : decode cX4_readImages 61 = .ok (.istore_n 1, 1) := by decide +kernel
theorem dX4_readImages_62 : decode cX4_readImages 62 = .ok (.iconst 0, 1) := by decide +kernel
theorem dX4_readImages_63 : decode cX4_readImages 63 = .ok (.istore_n 2, 1) := by decide +kernel
theorem dX4_readImages_64 : decode cX4_readImages 64 = .ok (.iload_n 2, 1) := by decide +kernel
theorem dX4_readImages_65 : decode cX4_readImages 65 = .ok (.aload_n 0, 1) := by decide +kernel
theorem dX4_readImages_66 : decode cX4_readImages 66 = .ok (.getfield 113, 3) := by decide +kernel
theorem dX4_readImages_69 : decode cX4_readImages 69 = .ok (.if_icmp .ge 110, 3) := by decide +kernel
theorem dX4_readImages_72 : decode cX4_readImages 72 = .ok (.bipush 10, 2) := by decide +kernel
theorem dX4_readImages_74 : decode cX4_readImages 74 = .ok (.iload_n 2, 1) := by decide +kernel
theorem dX4_readImages_75 : decode cX4_readImages 75 = .ok (.bipush 12, 2) := by decide +kernel
theorem dX4_readImages_77 : decode cX4_readImages 77 = .ok (.imul, 1) := by decide +kernel
theorem dX4_readImages_78 : decode cX4_readImages 78 = .ok (.iadd, 1) := by decide +kernel
theorem dX4_readImages_79 : decode cX4_readImages 79 = .ok (.istore_n 3, 1) := by decide +kernel
theorem dX4_readImages_80 : decode cX4_readImages 80 = .ok (.aload_n 0, 1) := by decide +kernel
theorem dX4_readImages_81 : decode cX4_readImages 81 = .ok (.getfield 27, 3) := by decide +kernel
theorem dX4_readImages_84 : decode cX4_readImages 84 = .ok (.iload_n 2, 1) := by decide +kernel
theorem dX4_readImages_85 : decode cX4_readImages 85 = .ok (.aload_n 0, 1) := by decide +kernel
theorem dX4_readImages_86 : decode cX4_readImages 86 = .ok (.getfield 14, 3) := by decide +kernel
theorem dX4_readImages_89 : decode cX4_readImages 89 = .ok (.iload_n 3, 1) := by decide +kernel
theorem dX4_readImages_90 : decode cX4_readImages 90 = .ok (.iconst 2, 1) := by decide +kernel
theorem dX4_readImages_91 : decode cX4_readImages 91 = .ok (.invokevirtual 70, 3) := by decide +kernel
theorem dX4_readImages_94 : decode cX4_readImages 94 = .ok (.l2i, 1) := by decide +kernel
theorem dX4_readImages_95 : decode cX4_readImages 95 = .ok (.iastore, 1) := by decide +kernel
theorem dX4_readImages_96 : decode cX4_readImages 96 = .ok (.aload_n 0, 1) := by decide +kernel
theorem dX4_readImages_97 : decode cX4_readImages 97 = .ok (.getfield 30, 3) := by decide +kernel
theorem dX4_readImages_100 : decode cX4_readImages 100 = .ok (.iload_n 2, 1) := by decide +kernel
theorem dX4_readImages_101 : decode cX4_readImages 101 = .ok (.aload_n 0, 1) := by decide +kernel
theorem dX4_readImages_102 : decode cX4_readImages 102 = .ok (.getfield 14, 3) := by decide +kernel
theorem dX4_readImages_105 : decode cX4_readImages 105 = .ok (.iload_n 3, 1) := by decide +kernel
theorem dX4_readImages_106 : decode cX4_readImages 106 = .ok (.iconst 2, 1) := by decide +kernel
theorem dX4_readImages_107 : decode cX4_readImages 107 = .ok (.iadd, 1) := by decide +kernel
theorem dX4_readImages_108 : decode cX4_readImages 108 = .ok (.iconst 2, 1) := by decide +kernel
theorem dX4_readImages_109 : decode cX4_readImages 109 = .ok (.invokevirtual 70, 3) := by decide +kernel
theorem dX4_readImages_112 : decode cX4_readImages 112 = .ok (.l2i, 1) := by decide +kernel
theorem dX4_readImages_113 : decode cX4_readImages 113 = .ok (.iastore, 1) := by decide +kernel
theorem dX4_readImages_114 : decode cX4_readImages 114 = .ok (.aload_n 0, 1) := by decide +kernel
theorem dX4_readImages_115 : decode cX4_readImages 115 = .ok (.getfield 33, 3) := by decide +kernel
theorem dX4_readImages_118 : decode cX4_readImages 118 = .ok (.iload_n 2, 1) := by decide +kernel
theorem dX4_readImages_119 : decode cX4_readImages 119 = .ok (.aload_n 0, 1) := by decide +kernel
theorem dX4_readImages_120 : decode cX4_readImages 120 = .ok (.getfield 14, 3) := by decide +kernel
theorem dX4_readImages_123 : decode cX4_readImages 123 = .ok (.iload_n 3, 1) := by decide +kernel
theorem dX4_readImages_124 : decode cX4_readImages 124 = .ok (.iconst 4, 1) := by decide +kernel
theorem dX4_readImages_125 : decode cX4_readImages 125 = .ok (.iadd, 1) := by decide +kernel
theorem dX4_readImages_126 : decode cX4_readImages 126 = .ok (.bipush 8, 2) := by decide +kernel
theorem dX4_readImages_128 : decode cX4_readImages 128 = .ok (.invokevirtual 70, 3) := by decide +kernel
theorem dX4_readImages_131 : decode cX4_readImages 131 = .ok (.lastore, 1) := by decide +kernel
theorem dX4_readImages_132 : decode cX4_readImages 132 = .ok (.aload_n 0, 1) := by decide +kernel
theorem dX4_readImages_133 : decode cX4_readImages 133 = .ok (.getfield 27, 3) := by decide +kernel
theorem dX4_readImages_136 : decode cX4_readImages 136 = .ok (.iload_n 2, 1) := by decide +kernel
theorem dX4_readImages_137 : decode cX4_readImages 137 = .ok (.iaload, 1) := by decide +kernel
theorem dX4_readImages_138 : decode cX4_readImages 138 = .ok (.iload_n 1, 1) := by decide +kernel
theorem dX4_readImages_139 : decode cX4_readImages 139 = .ok (.if_icmp .le 25, 3) := by decide +kernel
theorem dX4_readImages_142 : decode cX4_readImages 142 = .ok (.aload_n 0, 1) := by decide +kernel
theorem dX4_readImages_143 : decode cX4_readImages 143 = .ok (.getfield 30, 3) := by decide +kernel
theorem dX4_readImages_146 : decode cX4_readImages 146 = .ok (.iload_n 2, 1) := by decide +kernel
theorem dX4_readImages_147 : decode cX4_readImages 147 = .ok (.iaload, 1) := by decide +kernel
theorem dX4_readImages_148 : decode cX4_readImages 148 = .ok (.iconst 1, 1) := by decide +kernel
theorem dX4_readImages_149 : decode cX4_readImages 149 = .ok (.if_icmp .lt 15, 3) := by decide +kernel
theorem dX4_readImages_152 : decode cX4_readImages 152 = .ok (.aload_n 0, 1) := by decide +kernel
theorem dX4_readImages_153 : decode cX4_readImages 153 = .ok (.getfield 30, 3) := by decide +kernel
theorem dX4_readImages_156 : decode cX4_readImages 156 = .ok (.iload_n 2, 1) := by decide +kernel
theorem dX4_readImages_157 : decode cX4_readImages 157 = .ok (.iaload, 1) := by decide +kernel
theorem dX4_readImages_158 : decode cX4_readImages 158 = .ok (.sipush 1024, 3) := by decide +kernel
theorem dX4_readImages_161 : decode cX4_readImages 161 = .ok (.if_icmp .le 5, 3) := by decide +kernel
theorem dX4_readImages_164 : decode cX4_readImages 164 = .ok (.iconst 0, 1) := by decide +kernel
theorem dX4_readImages_165 : decode cX4_readImages 165 = .ok (.ireturn, 1) := by decide +kernel
theorem dX4_readImages_166 : decode cX4_readImages 166 = .ok (.aload_n 0, 1) := by decide +kernel
theorem dX4_readImages_167 : decode cX4_readImages 167 = .ok (.getfield 27, 3) := by decide +kernel
theorem dX4_readImages_170 : decode cX4_readImages 170 = .ok (.iload_n 2, 1) := by decide +kernel
theorem dX4_readImages_171 : decode cX4_readImages 171 = .ok (.iaload, 1) := by decide +kernel
theorem dX4_readImages_172 : decode cX4_readImages 172 = .ok (.istore_n 1, 1) := by decide +kernel
theorem dX4_readImages_173 : decode cX4_readImages 173 = .ok (.iinc 2 1, 3) := by decide +kernel
theorem dX4_readImages_176 : decode cX4_readImages 176 = .ok (.goto (-112), 3) := by decide +kernel
theorem dX4_readImages_179 : decode cX4_readImages 179 = .ok (.iconst 1, 1) := by decide +kernel
theorem dX4_readImages_180 : decode cX4_readImages 180 = .ok (.ireturn, 1) := by decide +kernel
theorem dX4_hasBodyOf_0 : decode cX4_hasBodyOf 0 = .ok (.aload_n 0, 1) := by decide +kernel
theorem dX4_hasBodyOf_1 : decode cX4_hasBodyOf 1 = .ok (.getfield 74, 3) := by decide +kernel
theorem dX4_hasBodyOf_4 : decode cX4_hasBodyOf 4 = .ok (.aload_n 1, 1) := by decide +kernel
theorem dX4_hasBodyOf_5 : decode cX4_hasBodyOf 5 = .ok (.getfield 74, 3) := by decide +kernel
theorem dX4_hasBodyOf_8 : decode cX4_hasBodyOf 8 = .ok (.if_icmp .eq 5, 3) := by decide +kernel
theorem dX4_hasBodyOf_11 : decode cX4_hasBodyOf 11 = .ok (.iconst 0, 1) := by decide +kernel
theorem dX4_hasBodyOf_12 : decode cX4_hasBodyOf 12 = .ok (.ireturn, 1) := by decide +kernel
theorem dX4_hasBodyOf_13 : decode cX4_hasBodyOf 13 = .ok (.iconst 3, 1) := by decide +kernel
theorem dX4_hasBodyOf_14 : decode cX4_hasBodyOf 14 = .ok (.istore_n 2, 1) := by decide +kernel
theorem dX4_hasBodyOf_15 : decode cX4_hasBodyOf 15 = .ok (.iload_n 2, 1) := by decide +kernel
theorem dX4_hasBodyOf_16 : decode cX4_hasBodyOf 16 = .ok (.iconst 3, 1) := by decide +kernel
theorem dX4_hasBodyOf_17 : decode cX4_hasBodyOf 17 = .ok (.aload_n 0, 1) := by decide +kernel
theorem dX4_hasBodyOf_18 : decode cX4_hasBodyOf 18 = .ok (.getfield 74, 3) := by decide +kernel
theorem dX4_hasBodyOf_21 : decode cX4_hasBodyOf 21 = .ok (.iadd, 1) := by decide +kernel
theorem dX4_hasBodyOf_22 : decode cX4_hasBodyOf 22 = .ok (.if_icmp .ge 30, 3) := by decide +kernel
theorem dX4_hasBodyOf_25 : decode cX4_hasBodyOf 25 = .ok (.aload_n 0, 1) := by decide +kernel
theorem dX4_hasBodyOf_26 : decode cX4_hasBodyOf 26 = .ok (.getfield 14, 3) := by decide +kernel
theorem dX4_hasBodyOf_29 : decode cX4_hasBodyOf 29 = .ok (.iload_n 2, 1) := by decide +kernel
theorem dX4_hasBodyOf_30 : decode cX4_hasBodyOf 30 = .ok (.invokevirtual 66, 3) := by decide +kernel
theorem dX4_hasBodyOf_33 : decode cX4_hasBodyOf 33 = .ok (.aload_n 1, 1) := by decide +kernel
theorem dX4_hasBodyOf_34 : decode cX4_hasBodyOf 34 = .ok (.getfield 14, 3) := by decide +kernel
theorem dX4_hasBodyOf_37 : decode cX4_hasBodyOf 37 = .ok (.iload_n 2, 1) := by decide +kernel
theorem dX4_hasBodyOf_38 : decode cX4_hasBodyOf 38 = .ok (.invokevirtual 66, 3) := by decide +kernel
theorem dX4_hasBodyOf_41 : decode cX4_hasBodyOf 41 = .ok (.if_icmp .eq 5, 3) := by decide +kernel
theorem dX4_hasBodyOf_44 : decode cX4_hasBodyOf 44 = .ok (.iconst 0, 1) := by decide +kernel
theorem dX4_hasBodyOf_45 : decode cX4_hasBodyOf 45 = .ok (.ireturn, 1) := by decide +kernel
theorem dX4_hasBodyOf_46 : decode cX4_hasBodyOf 46 = .ok (.iinc 2 1, 3) := by decide +kernel
theorem dX4_hasBodyOf_49 : decode cX4_hasBodyOf 49 = .ok (.goto (-34), 3) := by decide +kernel
theorem dX4_hasBodyOf_52 : decode cX4_hasBodyOf 52 = .ok (.iconst 1, 1) := by decide +kernel
theorem dX4_hasBodyOf_53 : decode cX4_hasBodyOf 53 = .ok (.ireturn, 1) := by decide +kernel
theorem dX4_givesLike_0 : decode cX4_givesLike 0 = .ok (.aload_n 0, 1) := by decide +kernel
theorem dX4_givesLike_1 : decode cX4_givesLike 1 = .ok (.getfield 20, 3) := by decide +kernel
theorem dX4_givesLike_4 : decode cX4_givesLike 4 = .ok (.iload_n 2, 1) := by decide +kernel
theorem dX4_givesLike_5 : decode cX4_givesLike 5 = .ok (.iaload, 1) := by decide +kernel
theorem dX4_givesLike_6 : decode cX4_givesLike 6 = .ok (.aload_n 1, 1) := by decide +kernel
theorem dX4_givesLike_7 : decode cX4_givesLike 7 = .ok (.getfield 20, 3) := by decide +kernel
theorem dX4_givesLike_10 : decode cX4_givesLike 10 = .ok (.iload_n 2, 1) := by decide +kernel
theorem dX4_givesLike_11 : decode cX4_givesLike 11 = .ok (.iaload, 1) := by decide +kernel
theorem dX4_givesLike_12 : decode cX4_givesLike 12 = .ok (.if_icmp .ne 22, 3) := by decide +kernel
theorem dX4_givesLike_15 : decode cX4_givesLike 15 = .ok (.aload_n 0, 1) := by decide +kernel
theorem dX4_givesLike_16 : decode cX4_givesLike 16 = .ok (.getfield 24, 3) := by decide +kernel
theorem dX4_givesLike_19 : decode cX4_givesLike 19 = .ok (.iload_n 2, 1) := by decide +kernel
theorem dX4_givesLike_20 : decode cX4_givesLike 20 = .ok (.iaload, 1) := by decide +kernel
theorem dX4_givesLike_21 : decode cX4_givesLike 21 = .ok (.aload_n 1, 1) := by decide +kernel
theorem dX4_givesLike_22 : decode cX4_givesLike 22 = .ok (.getfield 24, 3) := by decide +kernel
theorem dX4_givesLike_25 : decode cX4_givesLike 25 = .ok (.iload_n 2, 1) := by decide +kernel
theorem dX4_givesLike_26 : decode cX4_givesLike 26 = .ok (.iaload, 1) := by decide +kernel
theorem dX4_givesLike_27 : decode cX4_givesLike 27 = .ok (.if_icmp .ne 7, 3) := by decide +kernel
theorem dX4_givesLike_30 : decode cX4_givesLike 30 = .ok (.iconst 1, 1) := by decide +kernel
theorem dX4_givesLike_31 : decode cX4_givesLike 31 = .ok (.goto 4, 3) := by decide +kernel
theorem dX4_givesLike_34 : decode cX4_givesLike 34 = .ok (.iconst 0, 1) := by decide +kernel
theorem dX4_givesLike_35 : decode cX4_givesLike 35 = .ok (.ireturn, 1) := by decide +kernel
theorem dX4_tell_0 : decode cX4_tell 0 = .ok (.iload_n 1, 1) := by decide +kernel
theorem dX4_tell_1 : decode cX4_tell 1 = .ok (.tableswitch 189 0 9 #[55, 60, 66, 189, 71, 90, 109, 134, 151, 170], 55) := by decide +kernel
theorem dX4_tell_56 : decode cX4_tell 56 = .ok (.aload_n 0, 1) := by decide +kernel
theorem dX4_tell_57 : decode cX4_tell 57 = .ok (.getfield 41, 3) := by decide +kernel
theorem dX4_tell_60 : decode cX4_tell 60 = .ok (.ireturn, 1) := by decide +kernel
theorem dX4_tell_61 : decode cX4_tell 61 = .ok (.aload_n 0, 1) := by decide +kernel
theorem dX4_tell_62 : decode cX4_tell 62 = .ok (.getfield 46, 3) := by decide +kernel
theorem dX4_tell_65 : decode cX4_tell 65 = .ok (.l2i, 1) := by decide +kernel
theorem dX4_tell_66 : decode cX4_tell 66 = .ok (.ireturn, 1) := by decide +kernel
theorem dX4_tell_67 : decode cX4_tell 67 = .ok (.aload_n 0, 1) := by decide +kernel
theorem dX4_tell_68 : decode cX4_tell 68 = .ok (.getfield 50, 3) := by decide +kernel
theorem dX4_tell_71 : decode cX4_tell 71 = .ok (.ireturn, 1) := by decide +kernel
theorem dX4_tell_72 : decode cX4_tell 72 = .ok (.aload_n 0, 1) := by decide +kernel
theorem dX4_tell_73 : decode cX4_tell 73 = .ok (.iload_n 2, 1) := by decide +kernel
theorem dX4_tell_74 : decode cX4_tell 74 = .ok (.invokevirtual 116, 3) := by decide +kernel
theorem dX4_tell_77 : decode cX4_tell 77 = .ok (.ifCond .eq 12, 3) := by decide +kernel
theorem dX4_tell_80 : decode cX4_tell 80 = .ok (.aload_n 0, 1) := by decide +kernel
theorem dX4_tell_81 : decode cX4_tell 81 = .ok (.getfield 20, 3) := by decide +kernel
theorem dX4_tell_84 : decode cX4_tell 84 = .ok (.iload_n 2, 1) := by decide +kernel
theorem dX4_tell_85 : decode cX4_tell 85 = .ok (.iaload, 1) := by decide +kernel
theorem dX4_tell_86 : decode cX4_tell 86 = .ok (.goto 4, 3) := by decide +kernel
theorem dX4_tell_89 : decode cX4_tell 89 = .ok (.iconst (-1), 1) := by decide +kernel
theorem dX4_tell_90 : decode cX4_tell 90 = .ok (.ireturn, 1) := by decide +kernel
theorem dX4_tell_91 : decode cX4_tell 91 = .ok (.aload_n 0, 1) := by decide +kernel
theorem dX4_tell_92 : decode cX4_tell 92 = .ok (.iload_n 2, 1) := by decide +kernel
theorem dX4_tell_93 : decode cX4_tell 93 = .ok (.invokevirtual 116, 3) := by decide +kernel
theorem dX4_tell_96 : decode cX4_tell 96 = .ok (.ifCond .eq 12, 3) := by decide +kernel
theorem dX4_tell_99 : decode cX4_tell 99 = .ok (.aload_n 0, 1) := by decide +kernel
theorem dX4_tell_100 : decode cX4_tell 100 = .ok (.getfield 24, 3) := by decide +kernel
theorem dX4_tell_103 : decode cX4_tell 103 = .ok (.iload_n 2, 1) := by decide +kernel
theorem dX4_tell_104 : decode cX4_tell 104 = .ok (.iaload, 1) := by decide +kernel
theorem dX4_tell_105 : decode cX4_tell 105 = .ok (.goto 4, 3) := by decide +kernel
theorem dX4_tell_108 : decode cX4_tell 108 = .ok (.iconst (-1), 1) := by decide +kernel
theorem dX4_tell_109 : decode cX4_tell 109 = .ok (.ireturn, 1) := by decide +kernel
theorem dX4_tell_110 : decode cX4_tell 110 = .ok (.aload_n 0, 1) := by decide +kernel
theorem dX4_tell_111 : decode cX4_tell 111 = .ok (.getfield 37, 3) := by decide +kernel
theorem dX4_tell_114 : decode cX4_tell 114 = .ok (.iconst 1, 1) := by decide +kernel
theorem dX4_tell_115 : decode cX4_tell 115 = .ok (.if_icmp .eq 11, 3) := by decide +kernel
theorem dX4_tell_118 : decode cX4_tell 118 = .ok (.aload_n 0, 1) := by decide +kernel
theorem dX4_tell_119 : decode cX4_tell 119 = .ok (.getfield 37, 3) := by decide +kernel
theorem dX4_tell_122 : decode cX4_tell 122 = .ok (.iconst 2, 1) := by decide +kernel
theorem dX4_tell_123 : decode cX4_tell 123 = .ok (.if_icmp .ne 10, 3) := by decide +kernel
theorem dX4_tell_126 : decode cX4_tell 126 = .ok (.aload_n 0, 1) := by decide +kernel
theorem dX4_tell_127 : decode cX4_tell 127 = .ok (.getfield 107, 3) := by decide +kernel
theorem dX4_tell_130 : decode cX4_tell 130 = .ok (.goto 4, 3) := by decide +kernel
theorem dX4_tell_133 : decode cX4_tell 133 = .ok (.iconst (-1), 1) := by decide +kernel
theorem dX4_tell_134 : decode cX4_tell 134 = .ok (.ireturn, 1) := by decide +kernel
theorem dX4_tell_135 : decode cX4_tell 135 = .ok (.aload_n 0, 1) := by decide +kernel
theorem dX4_tell_136 : decode cX4_tell 136 = .ok (.getfield 37, 3) := by decide +kernel
theorem dX4_tell_139 : decode cX4_tell 139 = .ok (.iconst 3, 1) := by decide +kernel
theorem dX4_tell_140 : decode cX4_tell 140 = .ok (.if_icmp .ne 10, 3) := by decide +kernel
theorem dX4_tell_143 : decode cX4_tell 143 = .ok (.aload_n 0, 1) := by decide +kernel
theorem dX4_tell_144 : decode cX4_tell 144 = .ok (.getfield 113, 3) := by decide +kernel
theorem dX4_tell_147 : decode cX4_tell 147 = .ok (.goto 4, 3) := by decide +kernel
theorem dX4_tell_150 : decode cX4_tell 150 = .ok (.iconst (-1), 1) := by decide +kernel
theorem dX4_tell_151 : decode cX4_tell 151 = .ok (.ireturn, 1) := by decide +kernel
theorem dX4_tell_152 : decode cX4_tell 152 = .ok (.aload_n 0, 1) := by decide +kernel
theorem dX4_tell_153 : decode cX4_tell 153 = .ok (.iload_n 2, 1) := by decide +kernel
theorem dX4_tell_154 : decode cX4_tell 154 = .ok (.invokevirtual 120, 3) := by decide +kernel
theorem dX4_tell_157 : decode cX4_tell 157 = .ok (.ifCond .eq 12, 3) := by decide +kernel
theorem dX4_tell_160 : decode cX4_tell 160 = .ok (.aload_n 0, 1) := by decide +kernel
theorem dX4_tell_161 : decode cX4_tell 161 = .ok (.getfield 27, 3) := by decide +kernel
theorem dX4_tell_164 : decode cX4_tell 164 = .ok (.iload_n 2, 1) := by decide +kernel
theorem dX4_tell_165 : decode cX4_tell 165 = .ok (.iaload, 1) := by decide +kernel
theorem dX4_tell_166 : decode cX4_tell 166 = .ok (.goto 4, 3) := by decide +kernel
theorem dX4_tell_169 : decode cX4_tell 169 = .ok (.iconst (-1), 1) := by decide +kernel
theorem dX4_tell_170 : decode cX4_tell 170 = .ok (.ireturn, 1) := by decide +kernel
theorem dX4_tell_171 : decode cX4_tell 171 = .ok (.aload_n 0, 1) := by decide +kernel
theorem dX4_tell_172 : decode cX4_tell 172 = .ok (.iload_n 2, 1) := by decide +kernel
theorem dX4_tell_173 : decode cX4_tell 173 = .ok (.invokevirtual 120, 3) := by decide +kernel
theorem dX4_tell_176 : decode cX4_tell 176 = .ok (.ifCond .eq 12, 3) := by decide +kernel
theorem dX4_tell_179 : decode cX4_tell 179 = .ok (.aload_n 0, 1) := by decide +kernel
theorem dX4_tell_180 : decode cX4_tell 180 = .ok (.getfield 30, 3) := by decide +kernel
theorem dX4_tell_183 : decode cX4_tell 183 = .ok (.iload_n 2, 1) := by decide +kernel
theorem dX4_tell_184 : decode cX4_tell 184 = .ok (.iaload, 1) := by decide +kernel
theorem dX4_tell_185 : decode cX4_tell 185 = .ok (.goto 4, 3) := by decide +kernel
theorem dX4_tell_188 : decode cX4_tell 188 = .ok (.iconst (-1), 1) := by decide +kernel
theorem dX4_tell_189 : decode cX4_tell 189 = .ok (.ireturn, 1) := by decide +kernel
theorem dX4_tell_190 : decode cX4_tell 190 = .ok (.iconst (-1), 1) := by decide +kernel
theorem dX4_tell_191 : decode cX4_tell 191 = .ok (.ireturn, 1) := by decide +kernel
theorem dX4_isRole_0 : decode cX4_isRole 0 = .ok (.aload_n 0, 1) := by decide +kernel
theorem dX4_isRole_1 : decode cX4_isRole 1 = .ok (.getfield 37, 3) := by decide +kernel
theorem dX4_isRole_4 : decode cX4_isRole 4 = .ok (.ifCond .ne 16, 3) := by decide +kernel
theorem dX4_isRole_7 : decode cX4_isRole 7 = .ok (.iload_n 1, 1) := by decide +kernel
theorem dX4_isRole_8 : decode cX4_isRole 8 = .ok (.ifCond .lt 12, 3) := by decide +kernel
theorem dX4_isRole_11 : decode cX4_isRole 11 = .ok (.iload_n 1, 1) := by decide +kernel
theorem dX4_isRole_12 : decode cX4_isRole 12 = .ok (.iconst 4, 1) := by decide +kernel
theorem dX4_isRole_13 : decode cX4_isRole 13 = .ok (.if_icmp .ge 7, 3) := by decide +kernel
theorem dX4_isRole_16 : decode cX4_isRole 16 = .ok (.iconst 1, 1) := by decide +kernel
theorem dX4_isRole_17 : decode cX4_isRole 17 = .ok (.goto 4, 3) := by decide +kernel
theorem dX4_isRole_20 : decode cX4_isRole 20 = .ok (.iconst 0, 1) := by decide +kernel
theorem dX4_isRole_21 : decode cX4_isRole 21 = .ok (.ireturn, 1) := by decide +kernel
theorem dX4_isImage_0 : decode cX4_isImage 0 = .ok (.aload_n 0, 1) := by decide +kernel
theorem dX4_isImage_1 : decode cX4_isImage 1 = .ok (.getfield 37, 3) := by decide +kernel
theorem dX4_isImage_4 : decode cX4_isImage 4 = .ok (.iconst 3, 1) := by decide +kernel
theorem dX4_isImage_5 : decode cX4_isImage 5 = .ok (.if_icmp .ne 24, 3) := by decide +kernel
theorem dX4_isImage_8 : decode cX4_isImage 8 = .ok (.iload_n 1, 1) := by decide +kernel
theorem dX4_isImage_9 : decode cX4_isImage 9 = .ok (.ifCond .lt 20, 3) := by decide +kernel
theorem dX4_isImage_12 : decode cX4_isImage 12 = .ok (.iload_n 1, 1) := by decide +kernel
theorem dX4_isImage_13 : decode cX4_isImage 13 = .ok (.aload_n 0, 1) := by decide +kernel
theorem dX4_isImage_14 : decode cX4_isImage 14 = .ok (.getfield 113, 3) := by decide +kernel
theorem dX4_isImage_17 : decode cX4_isImage 17 = .ok (.if_icmp .ge 12, 3) := by decide +kernel
theorem dX4_isImage_20 : decode cX4_isImage 20 = .ok (.iload_n 1, 1) := by decide +kernel
theorem dX4_isImage_21 : decode cX4_isImage 21 = .ok (.iconst 4, 1) := by decide +kernel
theorem dX4_isImage_22 : decode cX4_isImage 22 = .ok (.if_icmp .ge 7, 3) := by decide +kernel
theorem dX4_isImage_25 : decode cX4_isImage 25 = .ok (.iconst 1, 1) := by decide +kernel
theorem dX4_isImage_26 : decode cX4_isImage 26 = .ok (.goto 4, 3) := by decide +kernel
theorem dX4_isImage_29 : decode cX4_isImage 29 = .ok (.iconst 0, 1) := by decide +kernel
theorem dX4_isImage_30 : decode cX4_isImage 30 = .ok (.ireturn, 1) := by decide +kernel
theorem dX5_init_0 : decode cX5_init 0 = .ok (.aload_n 0, 1) := by decide +kernel
theorem dX5_init_1 : decode cX5_init 1 = .ok (.invokespecial 3, 3) := by decide +kernel
theorem dX5_init_4 : decode cX5_init 4 = .ok (.aload_n 0, 1) := by decide +kernel
theorem dX5_init_5 : decode cX5_init 5 = .ok (.iconst 0, 1) := by decide +kernel
theorem dX5_init_6 : decode cX5_init 6 = .ok (.putfield 9, 3) := by decide +kernel
theorem dX5_init_9 : decode cX5_init 9 = .ok (.aload_n 0, 1) := by decide +kernel
theorem dX5_init_10 : decode cX5_init 10 = .ok (.iload_n 1, 1) := by decide +kernel
theorem dX5_init_11 : decode cX5_init 11 = .ok (.iconst 0, 1) := by decide +kernel
theorem dX5_init_12 : decode cX5_init 12 = .ok (.invokestatic 15, 3) := by decide +kernel
theorem dX5_init_15 : decode cX5_init 15 = .ok (.newarray .int, 2) := by decide +kernel
theorem dX5_init_17 : decode cX5_init 17 = .ok (.putfield 21, 3) := by decide +kernel
theorem dX5_init_20 : decode cX5_init 20 = .ok (.return_, 1) := by decide +kernel
theorem dX5_size_0 : decode cX5_size 0 = .ok (.aload_n 0, 1) := by decide +kernel
theorem dX5_size_1 : decode cX5_size 1 = .ok (.getfield 9, 3) := by decide +kernel
theorem dX5_size_4 : decode cX5_size 4 = .ok (.ireturn, 1) := by decide +kernel
theorem dX5_has_0 : decode cX5_has 0 = .ok (.iload_n 1, 1) := by decide +kernel
theorem dX5_has_1 : decode cX5_has 1 = .ok (.ifCond .lt 15, 3) := by decide +kernel
theorem dX5_has_4 : decode cX5_has 4 = .ok (.iload_n 1, 1) := by decide +kernel
theorem dX5_has_5 : decode cX5_has 5 = .ok (.aload_n 0, 1) := by decide +kernel
theorem dX5_has_6 : decode cX5_has 6 = .ok (.getfield 9, 3) := by decide +kernel
theorem dX5_has_9 : decode cX5_has 9 = .ok (.if_icmp .ge 7, 3) := by decide +kernel
theorem dX5_has_12 : decode cX5_has 12 = .ok (.iconst 1, 1) := by decide +kernel
theorem dX5_has_13 : decode cX5_has 13 = .ok (.goto 4, 3) := by decide +kernel
theorem dX5_has_16 : decode cX5_has 16 = .ok (.iconst 0, 1) := by decide +kernel
theorem dX5_has_17 : decode cX5_has 17 = .ok (.ireturn, 1) := by decide +kernel
theorem dX5_at_0 : decode cX5_at 0 = .ok (.iload_n 1, 1) := by decide +kernel
theorem dX5_at_1 : decode cX5_at 1 = .ok (.ifCond .lt 20, 3) := by decide +kernel
theorem dX5_at_4 : decode cX5_at 4 = .ok (.iload_n 1, 1) := by decide +kernel
theorem dX5_at_5 : decode cX5_at 5 = .ok (.aload_n 0, 1) := by decide +kernel
theorem dX5_at_6 : decode cX5_at 6 = .ok (.getfield 9, 3) := by decide +kernel
theorem dX5_at_9 : decode cX5_at 9 = .ok (.if_icmp .ge 12, 3) := by decide +kernel
theorem dX5_at_12 : decode cX5_at 12 = .ok (.aload_n 0, 1) := by decide +kernel
theorem dX5_at_13 : decode cX5_at 13 = .ok (.getfield 21, 3) := by decide +kernel
theorem dX5_at_16 : decode cX5_at 16 = .ok (.iload_n 1, 1) := by decide +kernel
theorem dX5_at_17 : decode cX5_at 17 = .ok (.iaload, 1) := by decide +kernel
theorem dX5_at_18 : decode cX5_at 18 = .ok (.goto 6, 3) := by decide +kernel
theorem dX5_at_21 : decode cX5_at 21 = .ok (.sipush 255, 3) := by decide +kernel
theorem dX5_at_24 : decode cX5_at 24 = .ok (.ireturn, 1) := by decide +kernel
theorem dX5_set_0 : decode cX5_set 0 = .ok (.iload_n 1, 1) := by decide +kernel
theorem dX5_set_1 : decode cX5_set 1 = .ok (.ifCond .lt 22, 3) := by decide +kernel
theorem dX5_set_4 : decode cX5_set 4 = .ok (.iload_n 1, 1) := by decide +kernel
theorem dX5_set_5 : decode cX5_set 5 = .ok (.aload_n 0, 1) := by decide +kernel
theorem dX5_set_6 : decode cX5_set 6 = .ok (.getfield 9, 3) := by decide +kernel
theorem dX5_set_9 : decode cX5_set 9 = .ok (.if_icmp .ge 14, 3) := by decide +kernel
theorem dX5_set_12 : decode cX5_set 12 = .ok (.aload_n 0, 1) := by decide +kernel
theorem dX5_set_13 : decode cX5_set 13 = .ok (.getfield 21, 3) := by decide +kernel
theorem dX5_set_16 : decode cX5_set 16 = .ok (.iload_n 1, 1) := by decide +kernel
theorem dX5_set_17 : decode cX5_set 17 = .ok (.iload_n 2, 1) := by decide +kernel
theorem dX5_set_18 : decode cX5_set 18 = .ok (.sipush 255, 3) := by decide +kernel
theorem dX5_set_21 : decode cX5_set 21 = .ok (.iand, 1) := by decide +kernel
theorem dX5_set_22 : decode cX5_set 22 = .ok (.iastore, 1) := by decide +kernel
theorem dX5_set_23 : decode cX5_set 23 = .ok (.return_, 1) := by decide +kernel
theorem dX5_empty_0 : decode cX5_empty 0 = .ok (.aload_n 0, 1) := by decide +kernel
theorem dX5_empty_1 : decode cX5_empty 1 = .ok (.iconst 0, 1) := by decide +kernel
theorem dX5_empty_2 : decode cX5_empty 2 = .ok (.putfield 9, 3) := by decide +kernel
theorem dX5_empty_5 : decode cX5_empty 5 = .ok (.return_, 1) := by decide +kernel
theorem dX5_shorten_0 : decode cX5_shorten 0 = .ok (.aload_n 0, 1) := by decide +kernel
theorem dX5_shorten_1 : decode cX5_shorten 1 = .ok (.iconst 0, 1) := by decide +kernel
theorem dX5_shorten_2 : decode cX5_shorten 2 = .ok (.aload_n 0, 1) := by decide +kernel
theorem dX5_shorten_3 : decode cX5_shorten 3 = .ok (.getfield 9, 3) := by decide +kernel
theorem dX5_shorten_6 : decode cX5_shorten 6 = .ok (.iload_n 1, 1) := by decide +kernel
theorem dX5_shorten_7 : decode cX5_shorten 7 = .ok (.iconst 0, 1) := by decide +kernel
theorem dX5_shorten_8 : decode cX5_shorten 8 = .ok (.invokestatic 15, 3) := by decide +kernel
theorem dX5_shorten_11 : decode cX5_shorten 11 = .ok (.isub, 1) := by decide +kernel
theorem dX5_shorten_12 : decode cX5_shorten 12 = .ok (.invokestatic 15, 3) := by decide +kernel
theorem dX5_shorten_15 : decode cX5_shorten 15 = .ok (.putfield 9, 3) := by decide +kernel
theorem dX5_shorten_18 : decode cX5_shorten 18 = .ok (.return_, 1) := by decide +kernel
theorem dX5_add_0 : decode cX5_add 0 = .ok (.aload_n 0, 1) := by decide +kernel
theorem dX5_add_1 : decode cX5_add 1 = .ok (.getfield 9, 3) := by decide +kernel
theorem dX5_add_4 : decode cX5_add 4 = .ok (.aload_n 0, 1) := by decide +kernel
theorem dX5_add_5 : decode cX5_add 5 = .ok (.getfield 21, 3) := by decide +kernel
theorem dX5_add_8 : decode cX5_add 8 = .ok (.arraylength, 1) := by decide +kernel
theorem dX5_add_9 : decode cX5_add 9 = .ok (.if_icmp .ge 27, 3) := by decide +kernel
theorem dX5_add_12 : decode cX5_add 12 = .ok (.aload_n 0, 1) := by decide +kernel
theorem dX5_add_13 : decode cX5_add 13 = .ok (.getfield 21, 3) := by decide +kernel
theorem dX5_add_16 : decode cX5_add 16 = .ok (.aload_n 0, 1) := by decide +kernel
theorem dX5_add_17 : decode cX5_add 17 = .ok (.getfield 9, 3) := by decide +kernel
theorem dX5_add_20 : decode cX5_add 20 = .ok (.iload_n 1, 1) := by decide +kernel
theorem dX5_add_21 : decode cX5_add 21 = .ok (.sipush 255, 3) := by decide +kernel
theorem dX5_add_24 : decode cX5_add 24 = .ok (.iand, 1) := by decide +kernel
theorem dX5_add_25 : decode cX5_add 25 = .ok (.iastore, 1) := by decide +kernel
theorem dX5_add_26 : decode cX5_add 26 = .ok (.aload_n 0, 1) := by decide +kernel
theorem dX5_add_27 : decode cX5_add 27 = .ok (.dup, 1) := by decide +kernel
theorem dX5_add_28 : decode cX5_add 28 = .ok (.getfield 9, 3) := by decide +kernel
theorem dX5_add_31 : decode cX5_add 31 = .ok (.iconst 1, 1) := by decide +kernel
theorem dX5_add_32 : decode cX5_add 32 = .ok (.iadd, 1) := by decide +kernel
theorem dX5_add_33 : decode cX5_add 33 = .ok (.putfield 9, 3) := by decide +kernel
theorem dX5_add_36 : decode cX5_add 36 = .ok (.return_, 1) := by decide +kernel
theorem dX5_addNumber_0 : decode cX5_addNumber 0 = .ok (.iload_n 3, 1) := by decide +kernel
theorem dX5_addNumber_1 : decode cX5_addNumber 1 = .ok (.iconst 1, 1) := by decide +kernel
theorem dX5_addNumber_2 : decode cX5_addNumber 2 = .ok (.isub, 1) := by decide +kernel
theorem dX5_addNumber_3 : decode cX5_addNumber 3 = .ok (.istore 4, 2) := by decide +kernel
theorem dX5_addNumber_5 : decode cX5_addNumber 5 = .ok (.iload 4, 2) := by decide +kernel
theorem dX5_addNumber_7 : decode cX5_addNumber 7 = .ok (.ifCond .lt 21, 3) := by decide +kernel
theorem dX5_addNumber_10 : decode cX5_addNumber 10 = .ok (.aload_n 0, 1) := by decide +kernel
theorem dX5_addNumber_11 : decode cX5_addNumber 11 = .ok (.lload_n 1, 1) := by decide +kernel
theorem dX5_addNumber_12 : decode cX5_addNumber 12 = .ok (.bipush 8, 2) := by decide +kernel
theorem dX5_addNumber_14 : decode cX5_addNumber 14 = .ok (.iload 4, 2) := by decide +kernel
theorem dX5_addNumber_16 : decode cX5_addNumber 16 = .ok (.imul, 1) := by decide +kernel
theorem dX5_addNumber_17 : decode cX5_addNumber 17 = .ok (.lushr, 1) := by decide +kernel
theorem dX5_addNumber_18 : decode cX5_addNumber 18 = .ok (.l2i, 1) := by decide +kernel
theorem dX5_addNumber_19 : decode cX5_addNumber 19 = .ok (.invokevirtual 25, 3) := by decide +kernel
theorem dX5_addNumber_22 : decode cX5_addNumber 22 = .ok (.iinc 4 (-1), 3) := by decide +kernel
theorem dX5_addNumber_25 : decode cX5_addNumber 25 = .ok (.goto (-20), 3) := by decide +kernel
theorem dX5_addNumber_28 : decode cX5_addNumber 28 = .ok (.return_, 1) := by decide +kernel
theorem dX5_addFrom_0 : decode cX5_addFrom 0 = .ok (.iconst 0, 1) := by decide +kernel
theorem dX5_addFrom_1 : decode cX5_addFrom 1 = .ok (.istore 4, 2) := by decide +kernel
theorem dX5_addFrom_3 : decode cX5_addFrom 3 = .ok (.iload 4, 2) := by decide +kernel
theorem dX5_addFrom_5 : decode cX5_addFrom 5 = .ok (.iload_n 3, 1) := by decide +kernel
theorem dX5_addFrom_6 : decode cX5_addFrom 6 = .ok (.if_icmp .ge 21, 3) := by decide +kernel
theorem dX5_addFrom_9 : decode cX5_addFrom 9 = .ok (.aload_n 0, 1) := by decide +kernel
theorem dX5_addFrom_10 : decode cX5_addFrom 10 = .ok (.aload_n 1, 1) := by decide +kernel
theorem dX5_addFrom_11 : decode cX5_addFrom 11 = .ok (.iload_n 2, 1) := by decide +kernel
theorem dX5_addFrom_12 : decode cX5_addFrom 12 = .ok (.iload 4, 2) := by decide +kernel
theorem dX5_addFrom_14 : decode cX5_addFrom 14 = .ok (.iadd, 1) := by decide +kernel
theorem dX5_addFrom_15 : decode cX5_addFrom 15 = .ok (.invokevirtual 29, 3) := by decide +kernel
theorem dX5_addFrom_18 : decode cX5_addFrom 18 = .ok (.invokevirtual 25, 3) := by decide +kernel
theorem dX5_addFrom_21 : decode cX5_addFrom 21 = .ok (.iinc 4 1, 3) := by decide +kernel
theorem dX5_addFrom_24 : decode cX5_addFrom 24 = .ok (.goto (-21), 3) := by decide +kernel
theorem dX5_addFrom_27 : decode cX5_addFrom 27 = .ok (.return_, 1) := by decide +kernel
theorem dX5_number_0 : decode cX5_number 0 = .ok (.iload_n 1, 1) := by decide +kernel
theorem dX5_number_1 : decode cX5_number 1 = .ok (.ifCond .lt 17, 3) := by decide +kernel
theorem dX5_number_4 : decode cX5_number 4 = .ok (.iload_n 2, 1) := by decide +kernel
theorem dX5_number_5 : decode cX5_number 5 = .ok (.ifCond .lt 13, 3) := by decide +kernel
theorem dX5_number_8 : decode cX5_number 8 = .ok (.iload_n 1, 1) := by decide +kernel
theorem dX5_number_9 : decode cX5_number 9 = .ok (.aload_n 0, 1) := by decide +kernel
theorem dX5_number_10 : decode cX5_number 10 = .ok (.getfield 9, 3) := by decide +kernel
theorem dX5_number_13 : decode cX5_number 13 = .ok (.iload_n 2, 1) := by decide +kernel
theorem dX5_number_14 : decode cX5_number 14 = .ok (.isub, 1) := by decide +kernel
theorem dX5_number_15 : decode cX5_number 15 = .ok (.if_icmp .le 7, 3) := by decide +kernel
theorem dX5_number_18 : decode cX5_number 18 = .ok (.ldc2_w 33, 3) := by decide +kernel
theorem dX5_number_21 : decode cX5_number 21 = .ok (.lreturn, 1) := by decide +kernel
theorem dX5_number_22 : decode cX5_number 22 = .ok (.lconst 0, 1) := by decide +kernel
theorem dX5_number_23 : decode cX5_number 23 = .ok (.lstore_n 3, 1) := by decide +kernel
theorem dX5_number_24 : decode cX5_number 24 = .ok (.iload_n 1, 1) := by decide +kernel
theorem dX5_number_25 : decode cX5_number 25 = .ok (.istore 5, 2) := by decide +kernel
theorem dX5_number_27 : decode cX5_number 27 = .ok (.iload 5, 2) := by decide +kernel
theorem dX5_number_29 : decode cX5_number 29 = .ok (.iload_n 1, 1) := by decide +kernel
theorem dX5_number_30 : decode cX5_number 30 = .ok (.iload_n 2, 1) := by decide +kernel
theorem dX5_number_31 : decode cX5_number 31 = .ok (.iadd, 1) := by decide +kernel
theorem dX5_number_32 : decode cX5_number 32 = .ok (.if_icmp .ge 23, 3) := by decide +kernel
theorem dX5_number_35 : decode cX5_number 35 = .ok (.lload_n 3, 1) := by decide +kernel
theorem dX5_number_36 : decode cX5_number 36 = .ok (.bipush 8, 2) := by decide +kernel
theorem dX5_number_38 : decode cX5_number 38 = .ok (.lshl, 1) := by decide +kernel
theorem dX5_number_39 : decode cX5_number 39 = .ok (.aload_n 0, 1) := by decide +kernel
theorem dX5_number_40 : decode cX5_number 40 = .ok (.getfield 21, 3) := by decide +kernel
theorem dX5_number_43 : decode cX5_number 43 = .ok (.iload 5, 2) := by decide +kernel
theorem dX5_number_45 : decode cX5_number 45 = .ok (.iaload, 1) := by decide +kernel
theorem dX5_number_46 : decode cX5_number 46 = .ok (.i2l, 1) := by decide +kernel
theorem dX5_number_47 : decode cX5_number 47 = .ok (.lor, 1) := by decide +kernel
theorem dX5_number_48 : decode cX5_number 48 = .ok (.lstore_n 3, 1) := by decide +kernel
theorem dX5_number_49 : decode cX5_number 49 = .ok (.iinc 5 1, 3) := by decide +kernel
theorem dX5_number_52 : decode cX5_number 52 = .ok (.goto (-25), 3) := by decide +kernel
theorem dX5_number_55 : decode cX5_number 55 = .ok (.lload_n 3, 1) := by decide +kernel
theorem dX5_number_56 : decode cX5_number 56 = .ok (.lreturn, 1) := by decide +kernel
theorem dX5_keyBits_0 : decode cX5_keyBits 0 = .ok (.iload_n 1, 1) := by decide +kernel
theorem dX5_keyBits_1 : decode cX5_keyBits 1 = .ok (.ifCond .lt 17, 3) := by decide +kernel
theorem dX5_keyBits_4 : decode cX5_keyBits 4 = .ok (.iload_n 2, 1) := by decide +kernel
theorem dX5_keyBits_5 : decode cX5_keyBits 5 = .ok (.ifCond .lt 13, 3) := by decide +kernel
theorem dX5_keyBits_8 : decode cX5_keyBits 8 = .ok (.iload_n 1, 1) := by decide +kernel
theorem dX5_keyBits_9 : decode cX5_keyBits 9 = .ok (.aload_n 0, 1) := by decide +kernel
theorem dX5_keyBits_10 : decode cX5_keyBits 10 = .ok (.getfield 9, 3) := by decide +kernel
theorem dX5_keyBits_13 : decode cX5_keyBits 13 = .ok (.iload_n 2, 1) := by decide +kernel
theorem dX5_keyBits_14 : decode cX5_keyBits 14 = .ok (.isub, 1) := by decide +kernel
theorem dX5_keyBits_15 : decode cX5_keyBits 15 = .ok (.if_icmp .le 5, 3) := by decide +kernel
theorem dX5_keyBits_18 : decode cX5_keyBits 18 = .ok (.iconst (-1), 1) := by decide +kernel
theorem dX5_keyBits_19 : decode cX5_keyBits 19 = .ok (.ireturn, 1) := by decide +kernel
theorem dX5_keyBits_20 : decode cX5_keyBits 20 = .ok (.iconst 0, 1) := by decide +kernel
theorem dX5_keyBits_21 : decode cX5_keyBits 21 = .ok (.istore_n 3, 1) := by decide +kernel
theorem dX5_keyBits_22 : decode cX5_keyBits 22 = .ok (.iconst (-1), 1) := by decide +kernel
theorem dX5_keyBits_23 : decode cX5_keyBits 23 = .ok (.istore 4, 2) := by decide +kernel
theorem dX5_keyBits_25 : decode cX5_keyBits 25 = .ok (.iload_n 1, 1) := by decide +kernel
theorem dX5_keyBits_26 : decode cX5_keyBits 26 = .ok (.istore 5, 2) := by decide +kernel
theorem dX5_keyBits_28 : decode cX5_keyBits 28 = .ok (.iload 5, 2) := by decide +kernel
theorem dX5_keyBits_30 : decode cX5_keyBits 30 = .ok (.iload_n 1, 1) := by decide +kernel
theorem dX5_keyBits_31 : decode cX5_keyBits 31 = .ok (.iload_n 2, 1) := by decide +kernel
theorem dX5_keyBits_32 : decode cX5_keyBits 32 = .ok (.iadd, 1) := by decide +kernel
theorem dX5_keyBits_33 : decode cX5_keyBits 33 = .ok (.if_icmp .ge 45, 3) := by decide +kernel
theorem dX5_keyBits_36 : decode cX5_keyBits 36 = .ok (.aload_n 0, 1) := by decide +kernel
theorem dX5_keyBits_37 : decode cX5_keyBits 37 = .ok (.getfield 21, 3) := by decide +kernel
theorem dX5_keyBits_40 : decode cX5_keyBits 40 = .ok (.iload 5, 2) := by decide +kernel
theorem dX5_keyBits_42 : decode cX5_keyBits 42 = .ok (.iaload, 1) := by decide +kernel
theorem dX5_keyBits_43 : decode cX5_keyBits 43 = .ok (.istore 6, 2) := by decide +kernel
theorem dX5_keyBits_45 : decode cX5_keyBits 45 = .ok (.iload 6, 2) := by decide +kernel
theorem dX5_keyBits_47 : decode cX5_keyBits 47 = .ok (.iload 4, 2) := by decide +kernel
theorem dX5_keyBits_49 : decode cX5_keyBits 49 = .ok (.if_icmp .le 10, 3) := by decide +kernel
theorem dX5_keyBits_52 : decode cX5_keyBits 52 = .ok (.iload 6, 2) := by decide +kernel
theorem dX5_keyBits_54 : decode cX5_keyBits 54 = .ok (.bipush 16, 2) := by decide +kernel
theorem dX5_keyBits_56 : decode cX5_keyBits 56 = .ok (.if_icmp .lt 5, 3) := by decide +kernel
theorem dX5_keyBits_59 : decode cX5_keyBits 59 = .ok (.iconst (-1), 1) := by decide +kernel
theorem dX5_keyBits_60 : decode cX5_keyBits 60 = .ok (.ireturn, 1) := by decide +kernel
theorem dX5_keyBits_61 : decode cX5_keyBits 61 = .ok (.iload_n 3, 1) := by decide +kernel
theorem dX5_keyBits_62 : decode cX5_keyBits 62 = .ok (.iconst 1, 1) := by decide +kernel
theorem dX5_keyBits_63 : decode cX5_keyBits 63 = .ok (.iload 6, 2) := by decide +kernel
theorem dX5_keyBits_65 : decode cX5_keyBits 65 = .ok (.ishl, 1) := by decide +kernel
theorem dX5_keyBits_66 : decode cX5_keyBits 66 = .ok (.ior, 1) := by decide +kernel
theorem dX5_keyBits_67 : decode cX5_keyBits 67 = .ok (.istore_n 3, 1) := by decide +kernel
theorem dX5_keyBits_68 : decode cX5_keyBits 68 = .ok (.iload 6, 2) := by decide +kernel
theorem dX5_keyBits_70 : decode cX5_keyBits 70 = .ok (.istore 4, 2) := by decide +kernel
theorem dX5_keyBits_72 : decode cX5_keyBits 72 = .ok (.iinc 5 1, 3) := by decide +kernel
theorem dX5_keyBits_75 : decode cX5_keyBits 75 = .ok (.goto (-47), 3) := by decide +kernel
theorem dX5_keyBits_78 : decode cX5_keyBits 78 = .ok (.iload_n 3, 1) := by decide +kernel
theorem dX5_keyBits_79 : decode cX5_keyBits 79 = .ok (.ireturn, 1) := by decide +kernel
theorem dX5_addKeys_0 : decode cX5_addKeys 0 = .ok (.aload_n 0, 1) := by decide +kernel
theorem dX5_addKeys_1 : decode cX5_addKeys 1 = .ok (.iload_n 1, 1) := by decide +kernel
theorem dX5_addKeys_2 : decode cX5_addKeys 2 = .ok (.invokestatic 35, 3) := by decide +kernel
theorem dX5_addKeys_5 : decode cX5_addKeys 5 = .ok (.invokevirtual 25, 3) := by decide +kernel
theorem dX5_addKeys_8 : decode cX5_addKeys 8 = .ok (.iconst 0, 1) := by decide +kernel
theorem dX5_addKeys_9 : decode cX5_addKeys 9 = .ok (.istore_n 2, 1) := by decide +kernel
theorem dX5_addKeys_10 : decode cX5_addKeys 10 = .ok (.iload_n 2, 1) := by decide +kernel
theorem dX5_addKeys_11 : decode cX5_addKeys 11 = .ok (.bipush 16, 2) := by decide +kernel
theorem dX5_addKeys_13 : decode cX5_addKeys 13 = .ok (.if_icmp .ge 22, 3) := by decide +kernel
theorem dX5_addKeys_16 : decode cX5_addKeys 16 = .ok (.iload_n 1, 1) := by decide +kernel
theorem dX5_addKeys_17 : decode cX5_addKeys 17 = .ok (.iload_n 2, 1) := by decide +kernel
theorem dX5_addKeys_18 : decode cX5_addKeys 18 = .ok (.ishr, 1) := by decide +kernel
theorem dX5_addKeys_19 : decode cX5_addKeys 19 = .ok (.iconst 1, 1) := by decide +kernel
theorem dX5_addKeys_20 : decode cX5_addKeys 20 = .ok (.iand, 1) := by decide +kernel
theorem dX5_addKeys_21 : decode cX5_addKeys 21 = .ok (.ifCond .eq 8, 3) := by decide +kernel
theorem dX5_addKeys_24 : decode cX5_addKeys 24 = .ok (.aload_n 0, 1) := by decide +kernel
theorem dX5_addKeys_25 : decode cX5_addKeys 25 = .ok (.iload_n 2, 1) := by decide +kernel
theorem dX5_addKeys_26 : decode cX5_addKeys 26 = .ok (.invokevirtual 25, 3) := by decide +kernel
theorem dX5_addKeys_29 : decode cX5_addKeys 29 = .ok (.iinc 2 1, 3) := by decide +kernel
theorem dX5_addKeys_32 : decode cX5_addKeys 32 = .ok (.goto (-22), 3) := by decide +kernel
theorem dX5_addKeys_35 : decode cX5_addKeys 35 = .ok (.return_, 1) := by decide +kernel
theorem dX5_hash_0 : decode cX5_hash 0 = .ok (.ldc2_w 40, 3) := by decide +kernel
theorem dX5_hash_3 : decode cX5_hash 3 = .ok (.lstore_n 3, 1) := by decide +kernel
theorem dX5_hash_4 : decode cX5_hash 4 = .ok (.iload_n 1, 1) := by decide +kernel
theorem dX5_hash_5 : decode cX5_hash 5 = .ok (.ifCond .lt 17, 3) := by decide +kernel
theorem dX5_hash_8 : decode cX5_hash 8 = .ok (.iload_n 2, 1) := by decide +kernel
theorem dX5_hash_9 : decode cX5_hash 9 = .ok (.ifCond .lt 13, 3) := by decide +kernel
theorem dX5_hash_12 : decode cX5_hash 12 = .ok (.iload_n 1, 1) := by decide +kernel
theorem dX5_hash_13 : decode cX5_hash 13 = .ok (.aload_n 0, 1) := by decide +kernel
theorem dX5_hash_14 : decode cX5_hash 14 = .ok (.getfield 9, 3) := by decide +kernel
theorem dX5_hash_17 : decode cX5_hash 17 = .ok (.iload_n 2, 1) := by decide +kernel
theorem dX5_hash_18 : decode cX5_hash 18 = .ok (.isub, 1) := by decide +kernel
theorem dX5_hash_19 : decode cX5_hash 19 = .ok (.if_icmp .le 5, 3) := by decide +kernel
theorem dX5_hash_22 : decode cX5_hash 22 = .ok (.lload_n 3, 1) := by decide +kernel
theorem dX5_hash_23 : decode cX5_hash 23 = .ok (.lreturn, 1) := by decide +kernel
theorem dX5_hash_24 : decode cX5_hash 24 = .ok (.iload_n 1, 1) := by decide +kernel
theorem dX5_hash_25 : decode cX5_hash 25 = .ok (.istore 5, 2) := by decide +kernel
theorem dX5_hash_27 : decode cX5_hash 27 = .ok (.iload 5, 2) := by decide +kernel
theorem dX5_hash_29 : decode cX5_hash 29 = .ok (.iload_n 1, 1) := by decide +kernel
theorem dX5_hash_30 : decode cX5_hash 30 = .ok (.iload_n 2, 1) := by decide +kernel
theorem dX5_hash_31 : decode cX5_hash 31 = .ok (.iadd, 1) := by decide +kernel
theorem dX5_hash_32 : decode cX5_hash 32 = .ok (.if_icmp .ge 31, 3) := by decide +kernel
theorem dX5_hash_35 : decode cX5_hash 35 = .ok (.lload_n 3, 1) := by decide +kernel
theorem dX5_hash_36 : decode cX5_hash 36 = .ok (.aload_n 0, 1) := by decide +kernel
theorem dX5_hash_37 : decode cX5_hash 37 = .ok (.getfield 21, 3) := by decide +kernel
theorem dX5_hash_40 : decode cX5_hash 40 = .ok (.iload 5, 2) := by decide +kernel
theorem dX5_hash_42 : decode cX5_hash 42 = .ok (.iaload, 1) := by decide +kernel
theorem dX5_hash_43 : decode cX5_hash 43 = .ok (.i2l, 1) := by decide +kernel
theorem dX5_hash_44 : decode cX5_hash 44 = .ok (.lxor, 1) := by decide +kernel
theorem dX5_hash_45 : decode cX5_hash 45 = .ok (.ldc2_w 42, 3) := by decide +kernel
theorem dX5_hash_48 : decode cX5_hash 48 = .ok (.lmul, 1) := by decide +kernel
theorem dX5_hash_49 : decode cX5_hash 49 = .ok (.lstore_n 3, 1) := by decide +kernel
theorem dX5_hash_50 : decode cX5_hash 50 = .ok (.lload_n 3, 1) := by decide +kernel
theorem dX5_hash_51 : decode cX5_hash 51 = .ok (.lload_n 3, 1) := by decide +kernel
theorem dX5_hash_52 : decode cX5_hash 52 = .ok (.bipush 29, 2) := by decide +kernel
theorem dX5_hash_54 : decode cX5_hash 54 = .ok (.lushr, 1) := by decide +kernel
theorem dX5_hash_55 : decode cX5_hash 55 = .ok (.lxor, 1) := by decide +kernel
theorem dX5_hash_56 : decode cX5_hash 56 = .ok (.lstore_n 3, 1) := by decide +kernel
theorem dX5_hash_57 : decode cX5_hash 57 = .ok (.iinc 5 1, 3) := by decide +kernel
theorem dX5_hash_60 : decode cX5_hash 60 = .ok (.goto (-33), 3) := by decide +kernel
theorem dX5_hash_63 : decode cX5_hash 63 = .ok (.lload_n 3, 1) := by decide +kernel
theorem dX5_hash_64 : decode cX5_hash 64 = .ok (.lreturn, 1) := by decide +kernel
theorem dX5_checkOf_0 : decode cX5_checkOf 0 = .ok (.lload_n 0, 1) := by decide +kernel
theorem dX5_checkOf_1 : decode cX5_checkOf 1 = .ok (.bipush 32, 2) := by decide +kernel
theorem dX5_checkOf_3 : decode cX5_checkOf 3 = .ok (.lushr, 1) := by decide +kernel
theorem dX5_checkOf_4 : decode cX5_checkOf 4 = .ok (.lstore_n 2, 1) := by decide +kernel
theorem dX5_checkOf_5 : decode cX5_checkOf 5 = .ok (.lload_n 2, 1) := by decide +kernel
theorem dX5_checkOf_6 : decode cX5_checkOf 6 = .ok (.ldc2_w 44, 3) := by decide +kernel
theorem dX5_checkOf_9 : decode cX5_checkOf 9 = .ok (.lcmp, 1) := by decide +kernel
theorem dX5_checkOf_10 : decode cX5_checkOf 10 = .ok (.ifCond .ne 9, 3) := by decide +kernel
theorem dX5_checkOf_13 : decode cX5_checkOf 13 = .ok (.lload_n 2, 1) := by decide +kernel
theorem dX5_checkOf_14 : decode cX5_checkOf 14 = .ok (.lconst 1, 1) := by decide +kernel
theorem dX5_checkOf_15 : decode cX5_checkOf 15 = .ok (.lsub, 1) := by decide +kernel
theorem dX5_checkOf_16 : decode cX5_checkOf 16 = .ok (.goto 4, 3) := by decide +kernel
theorem dX5_checkOf_19 : decode cX5_checkOf 19 = .ok (.lload_n 2, 1) := by decide +kernel
theorem dX5_checkOf_20 : decode cX5_checkOf 20 = .ok (.lreturn, 1) := by decide +kernel
theorem dX6_init_0 : decode cX6_init 0 = .ok (.aload_n 0, 1) := by decide +kernel
theorem dX6_init_1 : decode cX6_init 1 = .ok (.invokespecial 3, 3) := by decide +kernel
theorem dX6_init_4 : decode cX6_init 4 = .ok (.aload_n 0, 1) := by decide +kernel
theorem dX6_init_5 : decode cX6_init 5 = .ok (.new 9, 3) := by decide +kernel
theorem dX6_init_8 : decode cX6_init 8 = .ok (.dup, 1) := by decide +kernel
theorem dX6_init_9 : decode cX6_init 9 = .ok (.invokespecial 11, 3) := by decide +kernel
theorem dX6_init_12 : decode cX6_init 12 = .ok (.putfield 12, 3) := by decide +kernel
theorem dX6_init_15 : decode cX6_init 15 = .ok (.aload_n 0, 1) := by decide +kernel
theorem dX6_init_16 : decode cX6_init 16 = .ok (.new 18, 3) := by decide +kernel
theorem dX6_init_19 : decode cX6_init 19 = .ok (.dup, 1) := by decide +kernel
theorem dX6_init_20 : decode cX6_init 20 = .ok (.sipush 128, 3) := by decide +kernel
theorem dX6_init_23 : decode cX6_init 23 = .ok (.invokespecial 20, 3) := by decide +kernel
theorem dX6_init_26 : decode cX6_init 26 = .ok (.putfield 23, 3) := by decide +kernel
theorem dX6_init_29 : decode cX6_init 29 = .ok (.aload_n 0, 1) := by decide +kernel
theorem dX6_init_30 : decode cX6_init 30 = .ok (.aload_n 1, 1) := by decide +kernel
theorem dX6_init_31 : decode cX6_init 31 = .ok (.putfield 27, 3) := by decide +kernel
theorem dX6_init_34 : decode cX6_init 34 = .ok (.aload_n 0, 1) := by decide +kernel
theorem dX6_init_35 : decode cX6_init 35 = .ok (.new 31, 3) := by decide +kernel
theorem dX6_init_38 : decode cX6_init 38 = .ok (.dup, 1) := by decide +kernel
theorem dX6_init_39 : decode cX6_init 39 = .ok (.aload_n 1, 1) := by decide +kernel
theorem dX6_init_40 : decode cX6_init 40 = .ok (.iload_n 2, 1) := by decide +kernel
theorem dX6_init_41 : decode cX6_init 41 = .ok (.iconst 2, 1) := by decide +kernel
theorem dX6_init_42 : decode cX6_init 42 = .ok (.iload_n 2, 1) := by decide +kernel
theorem dX6_init_43 : decode cX6_init 43 = .ok (.imul, 1) := by decide +kernel
theorem dX6_init_44 : decode cX6_init 44 = .ok (.invokespecial 33, 3) := by decide +kernel
theorem dX6_init_47 : decode cX6_init 47 = .ok (.putfield 36, 3) := by decide +kernel
theorem dX6_init_50 : decode cX6_init 50 = .ok (.aload_n 0, 1) := by decide +kernel
theorem dX6_init_51 : decode cX6_init 51 = .ok (.new 31, 3) := by decide +kernel
theorem dX6_init_54 : decode cX6_init 54 = .ok (.dup, 1) := by decide +kernel
theorem dX6_init_55 : decode cX6_init 55 = .ok (.aload_n 1, 1) := by decide +kernel
theorem dX6_init_56 : decode cX6_init 56 = .ok (.iload_n 2, 1) := by decide +kernel
theorem dX6_init_57 : decode cX6_init 57 = .ok (.iconst 2, 1) := by decide +kernel
theorem dX6_init_58 : decode cX6_init 58 = .ok (.iload_n 2, 1) := by decide +kernel
theorem dX6_init_59 : decode cX6_init 59 = .ok (.imul, 1) := by decide +kernel
theorem dX6_init_60 : decode cX6_init 60 = .ok (.iconst 1, 1) := by decide +kernel
theorem dX6_init_61 : decode cX6_init 61 = .ok (.iadd, 1) := by decide +kernel
theorem dX6_init_62 : decode cX6_init 62 = .ok (.invokespecial 33, 3) := by decide +kernel
theorem dX6_init_65 : decode cX6_init 65 = .ok (.putfield 40, 3) := by decide +kernel
theorem dX6_init_68 : decode cX6_init 68 = .ok (.aload_n 0, 1) := by decide +kernel
theorem dX6_init_69 : decode cX6_init 69 = .ok (.iload_n 2, 1) := by decide +kernel
theorem dX6_init_70 : decode cX6_init 70 = .ok (.ifCond .ne 7, 3) := by decide +kernel
theorem dX6_init_73 : decode cX6_init 73 = .ok (.iconst 1, 1) := by decide +kernel
theorem dX6_init_74 : decode cX6_init 74 = .ok (.goto 4, 3) := by decide +kernel
theorem dX6_init_77 : decode cX6_init 77 = .ok (.iconst 0, 1) := by decide +kernel
theorem dX6_init_78 : decode cX6_init 78 = .ok (.putfield 43, 3) := by decide +kernel
theorem dX6_init_81 : decode cX6_init 81 = .ok (.aload_n 0, 1) := by decide +kernel
theorem dX6_init_82 : decode cX6_init 82 = .ok (.getfield 12, 3) := by decide +kernel
theorem dX6_init_85 : decode cX6_init 85 = .ok (.invokevirtual 47, 3) := by decide +kernel
theorem dX6_init_88 : decode cX6_init 88 = .ok (.return_, 1) := by decide +kernel
theorem dX6_secondCounts_0 : decode cX6_secondCounts 0 = .ok (.aload_n 0, 1) := by decide +kernel
theorem dX6_secondCounts_1 : decode cX6_secondCounts 1 = .ok (.getfield 40, 3) := by decide +kernel
theorem dX6_secondCounts_4 : decode cX6_secondCounts 4 = .ok (.getfield 50, 3) := by decide +kernel
theorem dX6_secondCounts_7 : decode cX6_secondCounts 7 = .ok (.aload_n 0, 1) := by decide +kernel
theorem dX6_secondCounts_8 : decode cX6_secondCounts 8 = .ok (.getfield 36, 3) := by decide +kernel
theorem dX6_secondCounts_11 : decode cX6_secondCounts 11 = .ok (.getfield 50, 3) := by decide +kernel
theorem dX6_secondCounts_14 : decode cX6_secondCounts 14 = .ok (.if_icmp .le 7, 3) := by decide +kernel
theorem dX6_secondCounts_17 : decode cX6_secondCounts 17 = .ok (.iconst 1, 1) := by decide +kernel
theorem dX6_secondCounts_18 : decode cX6_secondCounts 18 = .ok (.goto 4, 3) := by decide +kernel
theorem dX6_secondCounts_21 : decode cX6_secondCounts 21 = .ok (.iconst 0, 1) := by decide +kernel
theorem dX6_secondCounts_22 : decode cX6_secondCounts 22 = .ok (.ireturn, 1) := by decide +kernel
theorem dX6_counting_0 : decode cX6_counting 0 = .ok (.aload_n 0, 1) := by decide +kernel
theorem dX6_counting_1 : decode cX6_counting 1 = .ok (.invokevirtual 54, 3) := by decide +kernel
theorem dX6_counting_4 : decode cX6_counting 4 = .ok (.ifCond .eq 10, 3) := by decide +kernel
theorem dX6_counting_7 : decode cX6_counting 7 = .ok (.aload_n 0, 1) := by decide +kernel
theorem dX6_counting_8 : decode cX6_counting 8 = .ok (.getfield 40, 3) := by decide +kernel
theorem dX6_counting_11 : decode cX6_counting 11 = .ok (.goto 7, 3) := by decide +kernel
theorem dX6_counting_14 : decode cX6_counting 14 = .ok (.aload_n 0, 1) := by decide +kernel
theorem dX6_counting_15 : decode cX6_counting 15 = .ok (.getfield 36, 3) := by decide +kernel
theorem dX6_counting_18 : decode cX6_counting 18 = .ok (.areturn, 1) := by decide +kernel
theorem dX6_number_0 : decode cX6_number 0 = .ok (.aload_n 0, 1) := by decide +kernel
theorem dX6_number_1 : decode cX6_number 1 = .ok (.getfield 36, 3) := by decide +kernel
theorem dX6_number_4 : decode cX6_number 4 = .ok (.getfield 50, 3) := by decide +kernel
theorem dX6_number_7 : decode cX6_number 7 = .ok (.aload_n 0, 1) := by decide +kernel
theorem dX6_number_8 : decode cX6_number 8 = .ok (.getfield 40, 3) := by decide +kernel
theorem dX6_number_11 : decode cX6_number 11 = .ok (.getfield 50, 3) := by decide +kernel
theorem dX6_number_14 : decode cX6_number 14 = .ok (.invokestatic 58, 3) := by decide +kernel
theorem dX6_number_17 : decode cX6_number 17 = .ok (.ireturn, 1) := by decide +kernel
theorem dX6_holds_0 : decode cX6_holds 0 = .ok (.aload_n 0, 1) := by decide +kernel
theorem dX6_holds_1 : decode cX6_holds 1 = .ok (.getfield 43, 3) := by decide +kernel
theorem dX6_holds_4 : decode cX6_holds 4 = .ok (.ifCond .ne 20, 3) := by decide +kernel
theorem dX6_holds_7 : decode cX6_holds 7 = .ok (.aload_n 0, 1) := by decide +kernel
theorem dX6_holds_8 : decode cX6_holds 8 = .ok (.invokevirtual 64, 3) := by decide +kernel
theorem dX6_holds_11 : decode cX6_holds 11 = .ok (.ifCond .le 17, 3) := by decide +kernel
theorem dX6_holds_14 : decode cX6_holds 14 = .ok (.aload_n 0, 1) := by decide +kernel
theorem dX6_holds_15 : decode cX6_holds 15 = .ok (.invokevirtual 67, 3) := by decide +kernel
theorem dX6_holds_18 : decode cX6_holds 18 = .ok (.getfield 71, 3) := by decide +kernel
theorem dX6_holds_21 : decode cX6_holds 21 = .ok (.ifCond .eq 7, 3) := by decide +kernel
theorem dX6_holds_24 : decode cX6_holds 24 = .ok (.iconst 1, 1) := by decide +kernel
theorem dX6_holds_25 : decode cX6_holds 25 = .ok (.goto 4, 3) := by decide +kernel
theorem dX6_holds_28 : decode cX6_holds 28 = .ok (.iconst 0, 1) := by decide +kernel
theorem dX6_holds_29 : decode cX6_holds 29 = .ok (.ireturn, 1) := by decide +kernel
theorem dX6_paper_0 : decode cX6_paper 0 = .ok (.aload_n 0, 1) := by decide +kernel
theorem dX6_paper_1 : decode cX6_paper 1 = .ok (.invokevirtual 64, 3) := by decide +kernel
theorem dX6_paper_4 : decode cX6_paper 4 = .ok (.ifCond .ne 17, 3) := by decide +kernel
theorem dX6_paper_7 : decode cX6_paper 7 = .ok (.aload_n 0, 1) := by decide +kernel
theorem dX6_paper_8 : decode cX6_paper 8 = .ok (.getfield 43, 3) := by decide +kernel
theorem dX6_paper_11 : decode cX6_paper 11 = .ok (.ifCond .eq 10, 3) := by decide +kernel
theorem dX6_paper_14 : decode cX6_paper 14 = .ok (.aload_n 0, 1) := by decide +kernel
theorem dX6_paper_15 : decode cX6_paper 15 = .ok (.getfield 12, 3) := by decide +kernel
theorem dX6_paper_18 : decode cX6_paper 18 = .ok (.goto 10, 3) := by decide +kernel
theorem dX6_paper_21 : decode cX6_paper 21 = .ok (.aload_n 0, 1) := by decide +kernel
theorem dX6_paper_22 : decode cX6_paper 22 = .ok (.invokevirtual 67, 3) := by decide +kernel
theorem dX6_paper_25 : decode cX6_paper 25 = .ok (.getfield 74, 3) := by decide +kernel
theorem dX6_paper_28 : decode cX6_paper 28 = .ok (.areturn, 1) := by decide +kernel
theorem dX6_holdsBodyOf_0 : decode cX6_holdsBodyOf 0 = .ok (.aload_n 0, 1) := by decide +kernel
theorem dX6_holdsBodyOf_1 : decode cX6_holdsBodyOf 1 = .ok (.invokevirtual 77, 3) := by decide +kernel
theorem dX6_holdsBodyOf_4 : decode cX6_holdsBodyOf 4 = .ok (.ifCond .eq 18, 3) := by decide +kernel
theorem dX6_holdsBodyOf_7 : decode cX6_holdsBodyOf 7 = .ok (.aload_n 0, 1) := by decide +kernel
theorem dX6_holdsBodyOf_8 : decode cX6_holdsBodyOf 8 = .ok (.invokevirtual 79, 3) := by decide +kernel
theorem dX6_holdsBodyOf_11 : decode cX6_holdsBodyOf 11 = .ok (.aload_n 1, 1) := by decide +kernel
theorem dX6_holdsBodyOf_12 : decode cX6_holdsBodyOf 12 = .ok (.invokevirtual 82, 3) := by decide +kernel
theorem dX6_holdsBodyOf_15 : decode cX6_holdsBodyOf 15 = .ok (.ifCond .eq 7, 3) := by decide +kernel
theorem dX6_holdsBodyOf_18 : decode cX6_holdsBodyOf 18 = .ok (.iconst 1, 1) := by decide +kernel
theorem dX6_holdsBodyOf_19 : decode cX6_holdsBodyOf 19 = .ok (.goto 4, 3) := by decide +kernel
theorem dX6_holdsBodyOf_22 : decode cX6_holdsBodyOf 22 = .ok (.iconst 0, 1) := by decide +kernel
theorem dX6_holdsBodyOf_23 : decode cX6_holdsBodyOf 23 = .ok (.ireturn, 1) := by decide +kernel
theorem dX6_keep_0 : decode cX6_keep 0 = .ok (.aload_n 0, 1) := by decide +kernel
theorem dX6_keep_1 : decode cX6_keep 1 = .ok (.invokevirtual 64, 3) := by decide +kernel
theorem dX6_keep_4 : decode cX6_keep 4 = .ok (.ifCond .eq 10, 3) := by decide +kernel
theorem dX6_keep_7 : decode cX6_keep 7 = .ok (.aload_n 0, 1) := by decide +kernel
theorem dX6_keep_8 : decode cX6_keep 8 = .ok (.invokevirtual 54, 3) := by decide +kernel
theorem dX6_keep_11 : decode cX6_keep 11 = .ok (.ifCond .eq 10, 3) := by decide +kernel
theorem dX6_keep_14 : decode cX6_keep 14 = .ok (.aload_n 0, 1) := by decide +kernel
theorem dX6_keep_15 : decode cX6_keep 15 = .ok (.getfield 36, 3) := by decide +kernel
theorem dX6_keep_18 : decode cX6_keep 18 = .ok (.goto 7, 3) := by decide +kernel
theorem dX6_keep_21 : decode cX6_keep 21 = .ok (.aload_n 0, 1) := by decide +kernel
theorem dX6_keep_22 : decode cX6_keep 22 = .ok (.getfield 40, 3) := by decide +kernel
theorem dX6_keep_25 : decode cX6_keep 25 = .ok (.astore_n 2, 1) := by decide +kernel
theorem dX6_keep_26 : decode cX6_keep 26 = .ok (.aload_n 0, 1) := by decide +kernel
theorem dX6_keep_27 : decode cX6_keep 27 = .ok (.getfield 23, 3) := by decide +kernel
theorem dX6_keep_30 : decode cX6_keep 30 = .ok (.invokevirtual 86, 3) := by decide +kernel
theorem dX6_keep_33 : decode cX6_keep 33 = .ok (.aload_n 0, 1) := by decide +kernel
theorem dX6_keep_34 : decode cX6_keep 34 = .ok (.getfield 23, 3) := by decide +kernel
theorem dX6_keep_37 : decode cX6_keep 37 = .ok (.aload_n 0, 1) := by decide +kernel
theorem dX6_keep_38 : decode cX6_keep 38 = .ok (.invokevirtual 64, 3) := by decide +kernel
theorem dX6_keep_41 : decode cX6_keep 41 = .ok (.iconst 1, 1) := by decide +kernel
theorem dX6_keep_42 : decode cX6_keep 42 = .ok (.iadd, 1) := by decide +kernel
theorem dX6_keep_43 : decode cX6_keep 43 = .ok (.i2l, 1) := by decide +kernel
theorem dX6_keep_44 : decode cX6_keep 44 = .ok (.iconst 4, 1) := by decide +kernel
theorem dX6_keep_45 : decode cX6_keep 45 = .ok (.invokevirtual 89, 3) := by decide +kernel
theorem dX6_keep_48 : decode cX6_keep 48 = .ok (.aload_n 0, 1) := by decide +kernel
theorem dX6_keep_49 : decode cX6_keep 49 = .ok (.getfield 23, 3) := by decide +kernel
theorem dX6_keep_52 : decode cX6_keep 52 = .ok (.aload_n 1, 1) := by decide +kernel
theorem dX6_keep_53 : decode cX6_keep 53 = .ok (.invokevirtual 93, 3) := by decide +kernel
theorem dX6_keep_56 : decode cX6_keep 56 = .ok (.i2l, 1) := by decide +kernel
theorem dX6_keep_57 : decode cX6_keep 57 = .ok (.iconst 2, 1) := by decide +kernel
theorem dX6_keep_58 : decode cX6_keep 58 = .ok (.invokevirtual 89, 3) := by decide +kernel
theorem dX6_keep_61 : decode cX6_keep 61 = .ok (.aload_n 0, 1) := by decide +kernel
theorem dX6_keep_62 : decode cX6_keep 62 = .ok (.getfield 23, 3) := by decide +kernel
theorem dX6_keep_65 : decode cX6_keep 65 = .ok (.aload_n 1, 1) := by decide +kernel
theorem dX6_keep_66 : decode cX6_keep 66 = .ok (.iconst 0, 1) := by decide +kernel
theorem dX6_keep_67 : decode cX6_keep 67 = .ok (.aload_n 1, 1) := by decide +kernel
theorem dX6_keep_68 : decode cX6_keep 68 = .ok (.invokevirtual 93, 3) := by decide +kernel
theorem dX6_keep_71 : decode cX6_keep 71 = .ok (.invokevirtual 96, 3) := by decide +kernel
theorem dX6_keep_74 : decode cX6_keep 74 = .ok (.aload_n 0, 1) := by decide +kernel
theorem dX6_keep_75 : decode cX6_keep 75 = .ok (.getfield 23, 3) := by decide +kernel
theorem dX6_keep_78 : decode cX6_keep 78 = .ok (.aload_n 0, 1) := by decide +kernel
theorem dX6_keep_79 : decode cX6_keep 79 = .ok (.getfield 23, 3) := by decide +kernel
theorem dX6_keep_82 : decode cX6_keep 82 = .ok (.iconst 0, 1) := by decide +kernel
theorem dX6_keep_83 : decode cX6_keep 83 = .ok (.aload_n 0, 1) := by decide +kernel
theorem dX6_keep_84 : decode cX6_keep 84 = .ok (.getfield 23, 3) := by decide +kernel
theorem dX6_keep_87 : decode cX6_keep 87 = .ok (.invokevirtual 93, 3) := by decide +kernel
theorem dX6_keep_90 : decode cX6_keep 90 = .ok (.invokevirtual 100, 3) := by decide +kernel
theorem dX6_keep_93 : decode cX6_keep 93 = .ok (.invokestatic 104, 3) := by decide +kernel
theorem dX6_keep_96 : decode cX6_keep 96 = .ok (.iconst 4, 1) := by decide +kernel
theorem dX6_keep_97 : decode cX6_keep 97 = .ok (.invokevirtual 89, 3) := by decide +kernel
theorem dX6_keep_100 : decode cX6_keep 100 = .ok (.aload_n 0, 1) := by decide +kernel
theorem dX6_keep_101 : decode cX6_keep 101 = .ok (.getfield 27, 3) := by decide +kernel
theorem dX6_keep_104 : decode cX6_keep 104 = .ok (.aload_n 2, 1) := by decide +kernel
theorem dX6_keep_105 : decode cX6_keep 105 = .ok (.getfield 108, 3) := by decide +kernel
theorem dX6_keep_108 : decode cX6_keep 108 = .ok (.invokevirtual 111, 3) := by decide +kernel
theorem dX6_keep_111 : decode cX6_keep 111 = .ok (.aload_n 0, 1) := by decide +kernel
theorem dX6_keep_112 : decode cX6_keep 112 = .ok (.getfield 27, 3) := by decide +kernel
theorem dX6_keep_115 : decode cX6_keep 115 = .ok (.aload_n 2, 1) := by decide +kernel
theorem dX6_keep_116 : decode cX6_keep 116 = .ok (.getfield 108, 3) := by decide +kernel
theorem dX6_keep_119 : decode cX6_keep 119 = .ok (.iconst 4, 1) := by decide +kernel
theorem dX6_keep_120 : decode cX6_keep 120 = .ok (.imul, 1) := by decide +kernel
theorem dX6_keep_121 : decode cX6_keep 121 = .ok (.aload_n 0, 1) := by decide +kernel
theorem dX6_keep_122 : decode cX6_keep 122 = .ok (.getfield 23, 3) := by decide +kernel
theorem dX6_keep_125 : decode cX6_keep 125 = .ok (.invokevirtual 116, 3) := by decide +kernel
theorem dX6_keep_128 : decode cX6_keep 128 = .ok (.aload_n 2, 1) := by decide +kernel
theorem dX6_keep_129 : decode cX6_keep 129 = .ok (.invokevirtual 120, 3) := by decide +kernel
theorem dX6_keep_132 : decode cX6_keep 132 = .ok (.return_, 1) := by decide +kernel
theorem dX7_init_0 : decode cX7_init 0 = .ok (.aload_n 0, 1) := by decide +kernel
theorem dX7_init_1 : decode cX7_init 1 = .ok (.invokespecial 1, 3) := by decide +kernel
theorem dX7_init_4 : decode cX7_init 4 = .ok (.aload_n 0, 1) := by decide +kernel
theorem dX7_init_5 : decode cX7_init 5 = .ok (.sipush 400, 3) := by decide +kernel
theorem dX7_init_8 : decode cX7_init 8 = .ok (.newarray .int, 2) := by decide +kernel
theorem dX7_init_10 : decode cX7_init 10 = .ok (.putfield 9, 3) := by decide +kernel
theorem dX7_init_13 : decode cX7_init 13 = .ok (.aload_n 0, 1) := by decide +kernel
theorem dX7_init_14 : decode cX7_init 14 = .ok (.sipush 400, 3) := by decide +kernel
theorem dX7_init_17 : decode cX7_init 17 = .ok (.newarray .long, 2) := by decide +kernel
theorem dX7_init_19 : decode cX7_init 19 = .ok (.putfield 13, 3) := by decide +kernel
theorem dX7_init_22 : decode cX7_init 22 = .ok (.aload_n 0, 1) := by decide +kernel
theorem dX7_init_23 : decode cX7_init 23 = .ok (.iconst 0, 1) := by decide +kernel
theorem dX7_init_24 : decode cX7_init 24 = .ok (.putfield 17, 3) := by decide +kernel
theorem dX7_init_27 : decode cX7_init 27 = .ok (.return_, 1) := by decide +kernel
theorem dX7_has_0 : decode cX7_has 0 = .ok (.iconst 0, 1) := by decide +kernel
theorem dX7_has_1 : decode cX7_has 1 = .ok (.istore 4, 2) := by decide +kernel
theorem dX7_has_3 : decode cX7_has 3 = .ok (.iload 4, 2) := by decide +kernel
theorem dX7_has_5 : decode cX7_has 5 = .ok (.aload_n 0, 1) := by decide +kernel
theorem dX7_has_6 : decode cX7_has 6 = .ok (.getfield 17, 3) := by decide +kernel
theorem dX7_has_9 : decode cX7_has 9 = .ok (.if_icmp .ge 42, 3) := by decide +kernel
theorem dX7_has_12 : decode cX7_has 12 = .ok (.iload 4, 2) := by decide +kernel
theorem dX7_has_14 : decode cX7_has 14 = .ok (.sipush 400, 3) := by decide +kernel
theorem dX7_has_17 : decode cX7_has 17 = .ok (.if_icmp .ge 34, 3) := by decide +kernel
theorem dX7_has_20 : decode cX7_has 20 = .ok (.aload_n 0, 1) := by decide +kernel
theorem dX7_has_21 : decode cX7_has 21 = .ok (.getfield 9, 3) := by decide +kernel
theorem dX7_has_24 : decode cX7_has 24 = .ok (.iload 4, 2) := by decide +kernel
theorem dX7_has_26 : decode cX7_has 26 = .ok (.iaload, 1) := by decide +kernel
theorem dX7_has_27 : decode cX7_has 27 = .ok (.iload_n 1, 1) := by decide +kernel
theorem dX7_has_28 : decode cX7_has 28 = .ok (.if_icmp .ne 17, 3) := by decide +kernel
theorem dX7_has_31 : decode cX7_has 31 = .ok (.aload_n 0, 1) := by decide +kernel
theorem dX7_has_32 : decode cX7_has 32 = .ok (.getfield 13, 3) := by decide +kernel
theorem dX7_has_35 : decode cX7_has 35 = .ok (.iload 4, 2) := by decide +kernel
theorem dX7_has_37 : decode cX7_has 37 = .ok (.laload, 1) := by decide +kernel
theorem dX7_has_38 : decode cX7_has 38 = .ok (.lload_n 2, 1) := by decide +kernel
theorem dX7_has_39 : decode cX7_has 39 = .ok (.lcmp, 1) := by decide +kernel
theorem dX7_has_40 : decode cX7_has 40 = .ok (.ifCond .ne 5, 3) := by decide +kernel
theorem dX7_has_43 : decode cX7_has 43 = .ok (.iconst 1, 1) := by decide +kernel
theorem dX7_has_44 : decode cX7_has 44 = .ok (.ireturn, 1) := by decide +kernel
theorem dX7_has_45 : decode cX7_has 45 = .ok (.iinc 4 1, 3) := by decide +kernel
theorem dX7_has_48 : decode cX7_has 48 = .ok (.goto (-45), 3) := by decide +kernel
theorem dX7_has_51 : decode cX7_has 51 = .ok (.iconst 0, 1) := by decide +kernel
theorem dX7_has_52 : decode cX7_has 52 = .ok (.ireturn, 1) := by decide +kernel
theorem dX7_add_0 : decode cX7_add 0 = .ok (.aload_n 0, 1) := by decide +kernel
theorem dX7_add_1 : decode cX7_add 1 = .ok (.iload_n 1, 1) := by decide +kernel
theorem dX7_add_2 : decode cX7_add 2 = .ok (.lload_n 2, 1) := by decide +kernel
theorem dX7_add_3 : decode cX7_add 3 = .ok (.invokevirtual 21, 3) := by decide +kernel
theorem dX7_add_6 : decode cX7_add 6 = .ok (.ifCond .eq 5, 3) := by decide +kernel
theorem dX7_add_9 : decode cX7_add 9 = .ok (.iconst 1, 1) := by decide +kernel
theorem dX7_add_10 : decode cX7_add 10 = .ok (.ireturn, 1) := by decide +kernel
theorem dX7_add_11 : decode cX7_add 11 = .ok (.aload_n 0, 1) := by decide +kernel
theorem dX7_add_12 : decode cX7_add 12 = .ok (.getfield 17, 3) := by decide +kernel
theorem dX7_add_15 : decode cX7_add 15 = .ok (.sipush 400, 3) := by decide +kernel
theorem dX7_add_18 : decode cX7_add 18 = .ok (.if_icmp .lt 5, 3) := by decide +kernel
theorem dX7_add_21 : decode cX7_add 21 = .ok (.iconst 0, 1) := by decide +kernel
theorem dX7_add_22 : decode cX7_add 22 = .ok (.ireturn, 1) := by decide +kernel
theorem dX7_add_23 : decode cX7_add 23 = .ok (.aload_n 0, 1) := by decide +kernel
theorem dX7_add_24 : decode cX7_add 24 = .ok (.getfield 9, 3) := by decide +kernel
theorem dX7_add_27 : decode cX7_add 27 = .ok (.aload_n 0, 1) := by decide +kernel
theorem dX7_add_28 : decode cX7_add 28 = .ok (.getfield 17, 3) := by decide +kernel
theorem dX7_add_31 : decode cX7_add 31 = .ok (.iload_n 1, 1) := by decide +kernel
theorem dX7_add_32 : decode cX7_add 32 = .ok (.iastore, 1) := by decide +kernel
theorem dX7_add_33 : decode cX7_add 33 = .ok (.aload_n 0, 1) := by decide +kernel
theorem dX7_add_34 : decode cX7_add 34 = .ok (.getfield 13, 3) := by decide +kernel
theorem dX7_add_37 : decode cX7_add 37 = .ok (.aload_n 0, 1) := by decide +kernel
theorem dX7_add_38 : decode cX7_add 38 = .ok (.getfield 17, 3) := by decide +kernel
theorem dX7_add_41 : decode cX7_add 41 = .ok (.lload_n 2, 1) := by decide +kernel
theorem dX7_add_42 : decode cX7_add 42 = .ok (.lastore, 1) := by decide +kernel
theorem dX7_add_43 : decode cX7_add 43 = .ok (.aload_n 0, 1) := by decide +kernel
theorem dX7_add_44 : decode cX7_add 44 = .ok (.dup, 1) := by decide +kernel
theorem dX7_add_45 : decode cX7_add 45 = .ok (.getfield 17, 3) := by decide +kernel
theorem dX7_add_48 : decode cX7_add 48 = .ok (.iconst 1, 1) := by decide +kernel
theorem dX7_add_49 : decode cX7_add 49 = .ok (.iadd, 1) := by decide +kernel
theorem dX7_add_50 : decode cX7_add 50 = .ok (.putfield 17, 3) := by decide +kernel
theorem dX7_add_53 : decode cX7_add 53 = .ok (.iconst 1, 1) := by decide +kernel
theorem dX7_add_54 : decode cX7_add 54 = .ok (.ireturn, 1) := by decide +kernel
end
section
theorem dX8_init_0 : decode cX8_init 0 = .ok (.aload_n 0, 1) := by decide +kernel
theorem dX8_init_1 : decode cX8_init 1 = .ok (.invokespecial 3, 3) := by decide +kernel
theorem dX8_init_4 : decode cX8_init 4 = .ok (.aload_n 0, 1) := by decide +kernel
theorem dX8_init_5 : decode cX8_init 5 = .ok (.new 9, 3) := by decide +kernel
theorem dX8_init_8 : decode cX8_init 8 = .ok (.dup, 1) := by decide +kernel
theorem dX8_init_9 : decode cX8_init 9 = .ok (.bipush 32, 2) := by decide +kernel
theorem dX8_init_11 : decode cX8_init 11 = .ok (.invokespecial 11, 3) := by decide +kernel
theorem dX8_init_14 : decode cX8_init 14 = .ok (.putfield 14, 3) := by decide +kernel
theorem dX8_init_17 : decode cX8_init 17 = .ok (.aload_n 0, 1) := by decide +kernel
theorem dX8_init_18 : decode cX8_init 18 = .ok (.iconst (-1), 1) := by decide +kernel
theorem dX8_init_19 : decode cX8_init 19 = .ok (.putfield 20, 3) := by decide +kernel
theorem dX8_init_22 : decode cX8_init 22 = .ok (.aload_n 0, 1) := by decide +kernel
theorem dX8_init_23 : decode cX8_init 23 = .ok (.iconst 0, 1) := by decide +kernel
theorem dX8_init_24 : decode cX8_init 24 = .ok (.putfield 24, 3) := by decide +kernel
theorem dX8_init_27 : decode cX8_init 27 = .ok (.aload_n 0, 1) := by decide +kernel
theorem dX8_init_28 : decode cX8_init 28 = .ok (.aload_n 1, 1) := by decide +kernel
theorem dX8_init_29 : decode cX8_init 29 = .ok (.putfield 27, 3) := by decide +kernel
theorem dX8_init_32 : decode cX8_init 32 = .ok (.aload_n 0, 1) := by decide +kernel
theorem dX8_init_33 : decode cX8_init 33 = .ok (.iload_n 2, 1) := by decide +kernel
theorem dX8_init_34 : decode cX8_init 34 = .ok (.putfield 31, 3) := by decide +kernel
theorem dX8_init_37 : decode cX8_init 37 = .ok (.aload_n 0, 1) := by decide +kernel
theorem dX8_init_38 : decode cX8_init 38 = .ok (.aload_n 1, 1) := by decide +kernel
theorem dX8_init_39 : decode cX8_init 39 = .ok (.iconst 0, 1) := by decide +kernel
theorem dX8_init_40 : decode cX8_init 40 = .ok (.iload_n 2, 1) := by decide +kernel
theorem dX8_init_41 : decode cX8_init 41 = .ok (.invokevirtual 34, 3) := by decide +kernel
theorem dX8_init_44 : decode cX8_init 44 = .ok (.putfield 40, 3) := by decide +kernel
theorem dX8_init_47 : decode cX8_init 47 = .ok (.return_, 1) := by decide +kernel
theorem dX8_install_0 : decode cX8_install 0 = .ok (.aload_n 0, 1) := by decide +kernel
theorem dX8_install_1 : decode cX8_install 1 = .ok (.invokevirtual 44, 3) := by decide +kernel
theorem dX8_install_4 : decode cX8_install 4 = .ok (.aload_n 0, 1) := by decide +kernel
theorem dX8_install_5 : decode cX8_install 5 = .ok (.iconst 1, 1) := by decide +kernel
theorem dX8_install_6 : decode cX8_install 6 = .ok (.invokevirtual 47, 3) := by decide +kernel
theorem dX8_install_9 : decode cX8_install 9 = .ok (.aload_n 0, 1) := by decide +kernel
theorem dX8_install_10 : decode cX8_install 10 = .ok (.getfield 27, 3) := by decide +kernel
theorem dX8_install_13 : decode cX8_install 13 = .ok (.bipush 32, 2) := by decide +kernel
theorem dX8_install_15 : decode cX8_install 15 = .ok (.aload_n 0, 1) := by decide +kernel
theorem dX8_install_16 : decode cX8_install 16 = .ok (.getfield 14, 3) := by decide +kernel
theorem dX8_install_19 : decode cX8_install 19 = .ok (.iconst 0, 1) := by decide +kernel
theorem dX8_install_20 : decode cX8_install 20 = .ok (.invokevirtual 50, 3) := by decide +kernel
theorem dX8_install_23 : decode cX8_install 23 = .ok (.aload_n 0, 1) := by decide +kernel
theorem dX8_install_24 : decode cX8_install 24 = .ok (.invokevirtual 54, 3) := by decide +kernel
theorem dX8_install_27 : decode cX8_install 27 = .ok (.return_, 1) := by decide +kernel
theorem dX8_becomeFactory_0 : decode cX8_becomeFactory 0 = .ok (.aload_n 0, 1) := by decide +kernel
theorem dX8_becomeFactory_1 : decode cX8_becomeFactory 1 = .ok (.iconst (-1), 1) := by decide +kernel
theorem dX8_becomeFactory_2 : decode cX8_becomeFactory 2 = .ok (.putfield 20, 3) := by decide +kernel
theorem dX8_becomeFactory_5 : decode cX8_becomeFactory 5 = .ok (.aload_n 0, 1) := by decide +kernel
theorem dX8_becomeFactory_6 : decode cX8_becomeFactory 6 = .ok (.iconst 0, 1) := by decide +kernel
theorem dX8_becomeFactory_7 : decode cX8_becomeFactory 7 = .ok (.putfield 24, 3) := by decide +kernel
theorem dX8_becomeFactory_10 : decode cX8_becomeFactory 10 = .ok (.aload_n 0, 1) := by decide +kernel
theorem dX8_becomeFactory_11 : decode cX8_becomeFactory 11 = .ok (.iconst 0, 1) := by decide +kernel
theorem dX8_becomeFactory_12 : decode cX8_becomeFactory 12 = .ok (.putfield 57, 3) := by decide +kernel
theorem dX8_becomeFactory_15 : decode cX8_becomeFactory 15 = .ok (.aload_n 0, 1) := by decide +kernel
theorem dX8_becomeFactory_16 : decode cX8_becomeFactory 16 = .ok (.iconst 1, 1) := by decide +kernel
theorem dX8_becomeFactory_17 : decode cX8_becomeFactory 17 = .ok (.putfield 60, 3) := by decide +kernel
theorem dX8_becomeFactory_20 : decode cX8_becomeFactory 20 = .ok (.aload_n 0, 1) := by decide +kernel
theorem dX8_becomeFactory_21 : decode cX8_becomeFactory 21 = .ok (.aload_n 0, 1) := by decide +kernel
theorem dX8_becomeFactory_22 : decode cX8_becomeFactory 22 = .ok (.getfield 31, 3) := by decide +kernel
theorem dX8_becomeFactory_25 : decode cX8_becomeFactory 25 = .ok (.putfield 63, 3) := by decide +kernel
theorem dX8_becomeFactory_28 : decode cX8_becomeFactory 28 = .ok (.aload_n 0, 1) := by decide +kernel
theorem dX8_becomeFactory_29 : decode cX8_becomeFactory 29 = .ok (.aload_n 0, 1) := by decide +kernel
theorem dX8_becomeFactory_30 : decode cX8_becomeFactory 30 = .ok (.getfield 40, 3) := by decide +kernel
theorem dX8_becomeFactory_33 : decode cX8_becomeFactory 33 = .ok (.putfield 66, 3) := by decide +kernel
theorem dX8_becomeFactory_36 : decode cX8_becomeFactory 36 = .ok (.aload_n 0, 1) := by decide +kernel
theorem dX8_becomeFactory_37 : decode cX8_becomeFactory 37 = .ok (.iconst 0, 1) := by decide +kernel
theorem dX8_becomeFactory_38 : decode cX8_becomeFactory 38 = .ok (.iconst 0, 1) := by decide +kernel
theorem dX8_becomeFactory_39 : decode cX8_becomeFactory 39 = .ok (.iconst 0, 1) := by decide +kernel
theorem dX8_becomeFactory_40 : decode cX8_becomeFactory 40 = .ok (.lconst 0, 1) := by decide +kernel
theorem dX8_becomeFactory_41 : decode cX8_becomeFactory 41 = .ok (.invokevirtual 69, 3) := by decide +kernel
theorem dX8_becomeFactory_44 : decode cX8_becomeFactory 44 = .ok (.return_, 1) := by decide +kernel
theorem dX8_stage_0 : decode cX8_stage 0 = .ok (.aload_n 0, 1) := by decide +kernel
theorem dX8_stage_1 : decode cX8_stage 1 = .ok (.iload_n 1, 1) := by decide +kernel
theorem dX8_stage_2 : decode cX8_stage 2 = .ok (.putfield 73, 3) := by decide +kernel
theorem dX8_stage_5 : decode cX8_stage 5 = .ok (.aload_n 0, 1) := by decide +kernel
theorem dX8_stage_6 : decode cX8_stage 6 = .ok (.iload_n 2, 1) := by decide +kernel
theorem dX8_stage_7 : decode cX8_stage 7 = .ok (.putfield 76, 3) := by decide +kernel
theorem dX8_stage_10 : decode cX8_stage 10 = .ok (.aload_n 0, 1) := by decide +kernel
theorem dX8_stage_11 : decode cX8_stage 11 = .ok (.iload_n 3, 1) := by decide +kernel
theorem dX8_stage_12 : decode cX8_stage 12 = .ok (.putfield 79, 3) := by decide +kernel
theorem dX8_stage_15 : decode cX8_stage 15 = .ok (.aload_n 0, 1) := by decide +kernel
theorem dX8_stage_16 : decode cX8_stage 16 = .ok (.lload 4, 2) := by decide +kernel
theorem dX8_stage_18 : decode cX8_stage 18 = .ok (.putfield 82, 3) := by decide +kernel
theorem dX8_stage_21 : decode cX8_stage 21 = .ok (.return_, 1) := by decide +kernel
theorem dX8_stageNothing_0 : decode cX8_stageNothing 0 = .ok (.aload_n 0, 1) := by decide +kernel
theorem dX8_stageNothing_1 : decode cX8_stageNothing 1 = .ok (.iconst 0, 1) := by decide +kernel
theorem dX8_stageNothing_2 : decode cX8_stageNothing 2 = .ok (.iconst 0, 1) := by decide +kernel
theorem dX8_stageNothing_3 : decode cX8_stageNothing 3 = .ok (.iconst 0, 1) := by decide +kernel
theorem dX8_stageNothing_4 : decode cX8_stageNothing 4 = .ok (.lconst 0, 1) := by decide +kernel
theorem dX8_stageNothing_5 : decode cX8_stageNothing 5 = .ok (.invokevirtual 69, 3) := by decide +kernel
theorem dX8_stageNothing_8 : decode cX8_stageNothing 8 = .ok (.return_, 1) := by decide +kernel
theorem dX8_confirmStaged_0 : decode cX8_confirmStaged 0 = .ok (.aload_n 0, 1) := by decide +kernel
theorem dX8_confirmStaged_1 : decode cX8_confirmStaged 1 = .ok (.aload_n 0, 1) := by decide +kernel
theorem dX8_confirmStaged_2 : decode cX8_confirmStaged 2 = .ok (.invokevirtual 85, 3) := by decide +kernel
theorem dX8_confirmStaged_5 : decode cX8_confirmStaged 5 = .ok (.putfield 57, 3) := by decide +kernel
theorem dX8_confirmStaged_8 : decode cX8_confirmStaged 8 = .ok (.aload_n 0, 1) := by decide +kernel
theorem dX8_confirmStaged_9 : decode cX8_confirmStaged 9 = .ok (.aload_n 0, 1) := by decide +kernel
theorem dX8_confirmStaged_10 : decode cX8_confirmStaged 10 = .ok (.getfield 76, 3) := by decide +kernel
theorem dX8_confirmStaged_13 : decode cX8_confirmStaged 13 = .ok (.putfield 60, 3) := by decide +kernel
theorem dX8_confirmStaged_16 : decode cX8_confirmStaged 16 = .ok (.aload_n 0, 1) := by decide +kernel
theorem dX8_confirmStaged_17 : decode cX8_confirmStaged 17 = .ok (.aload_n 0, 1) := by decide +kernel
theorem dX8_confirmStaged_18 : decode cX8_confirmStaged 18 = .ok (.getfield 79, 3) := by decide +kernel
theorem dX8_confirmStaged_21 : decode cX8_confirmStaged 21 = .ok (.putfield 63, 3) := by decide +kernel
theorem dX8_confirmStaged_24 : decode cX8_confirmStaged 24 = .ok (.aload_n 0, 1) := by decide +kernel
theorem dX8_confirmStaged_25 : decode cX8_confirmStaged 25 = .ok (.aload_n 0, 1) := by decide +kernel
theorem dX8_confirmStaged_26 : decode cX8_confirmStaged 26 = .ok (.getfield 82, 3) := by decide +kernel
theorem dX8_confirmStaged_29 : decode cX8_confirmStaged 29 = .ok (.putfield 66, 3) := by decide +kernel
theorem dX8_confirmStaged_32 : decode cX8_confirmStaged 32 = .ok (.aload_n 0, 1) := by decide +kernel
theorem dX8_confirmStaged_33 : decode cX8_confirmStaged 33 = .ok (.invokevirtual 89, 3) := by decide +kernel
theorem dX8_confirmStaged_36 : decode cX8_confirmStaged 36 = .ok (.return_, 1) := by decide +kernel
theorem dX8_otherSlot_0 : decode cX8_otherSlot 0 = .ok (.iconst 1, 1) := by decide +kernel
theorem dX8_otherSlot_1 : decode cX8_otherSlot 1 = .ok (.aload_n 0, 1) := by decide +kernel
theorem dX8_otherSlot_2 : decode cX8_otherSlot 2 = .ok (.getfield 57, 3) := by decide +kernel
theorem dX8_otherSlot_5 : decode cX8_otherSlot 5 = .ok (.isub, 1) := by decide +kernel
theorem dX8_otherSlot_6 : decode cX8_otherSlot 6 = .ok (.ireturn, 1) := by decide +kernel
theorem dX8_stages_0 : decode cX8_stages 0 = .ok (.aload_n 0, 1) := by decide +kernel
theorem dX8_stages_1 : decode cX8_stages 1 = .ok (.getfield 76, 3) := by decide +kernel
theorem dX8_stages_4 : decode cX8_stages 4 = .ok (.iload_n 1, 1) := by decide +kernel
theorem dX8_stages_5 : decode cX8_stages 5 = .ok (.if_icmp .ne 24, 3) := by decide +kernel
theorem dX8_stages_8 : decode cX8_stages 8 = .ok (.aload_n 0, 1) := by decide +kernel
theorem dX8_stages_9 : decode cX8_stages 9 = .ok (.getfield 79, 3) := by decide +kernel
theorem dX8_stages_12 : decode cX8_stages 12 = .ok (.iload_n 2, 1) := by decide +kernel
theorem dX8_stages_13 : decode cX8_stages 13 = .ok (.if_icmp .ne 16, 3) := by decide +kernel
theorem dX8_stages_16 : decode cX8_stages 16 = .ok (.aload_n 0, 1) := by decide +kernel
theorem dX8_stages_17 : decode cX8_stages 17 = .ok (.getfield 82, 3) := by decide +kernel
theorem dX8_stages_20 : decode cX8_stages 20 = .ok (.lload_n 3, 1) := by decide +kernel
theorem dX8_stages_21 : decode cX8_stages 21 = .ok (.lcmp, 1) := by decide +kernel
theorem dX8_stages_22 : decode cX8_stages 22 = .ok (.ifCond .ne 7, 3) := by decide +kernel
theorem dX8_stages_25 : decode cX8_stages 25 = .ok (.iconst 1, 1) := by decide +kernel
theorem dX8_stages_26 : decode cX8_stages 26 = .ok (.goto 4, 3) := by decide +kernel
theorem dX8_stages_29 : decode cX8_stages 29 = .ok (.iconst 0, 1) := by decide +kernel
theorem dX8_stages_30 : decode cX8_stages 30 = .ok (.ireturn, 1) := by decide +kernel
theorem dX8_store_0 : decode cX8_store 0 = .ok (.aload_n 0, 1) := by decide +kernel
theorem dX8_store_1 : decode cX8_store 1 = .ok (.getfield 20, 3) := by decide +kernel
theorem dX8_store_4 : decode cX8_store 4 = .ok (.ifCond .ge 7, 3) := by decide +kernel
theorem dX8_store_7 : decode cX8_store 7 = .ok (.iconst 0, 1) := by decide +kernel
theorem dX8_store_8 : decode cX8_store 8 = .ok (.goto 9, 3) := by decide +kernel
theorem dX8_store_11 : decode cX8_store 11 = .ok (.aload_n 0, 1) := by decide +kernel
theorem dX8_store_12 : decode cX8_store 12 = .ok (.getfield 20, 3) := by decide +kernel
theorem dX8_store_15 : decode cX8_store 15 = .ok (.iconst 4, 1) := by decide +kernel
theorem dX8_store_16 : decode cX8_store 16 = .ok (.idiv, 1) := by decide +kernel
theorem dX8_store_17 : decode cX8_store 17 = .ok (.istore_n 1, 1) := by decide +kernel
theorem dX8_store_18 : decode cX8_store 18 = .ok (.aload_n 0, 1) := by decide +kernel
theorem dX8_store_19 : decode cX8_store 19 = .ok (.iload_n 1, 1) := by decide +kernel
theorem dX8_store_20 : decode cX8_store 20 = .ok (.invokevirtual 92, 3) := by decide +kernel
theorem dX8_store_23 : decode cX8_store 23 = .ok (.istore_n 2, 1) := by decide +kernel
theorem dX8_store_24 : decode cX8_store 24 = .ok (.iload_n 2, 1) := by decide +kernel
theorem dX8_store_25 : decode cX8_store 25 = .ok (.ifCond .ge 20, 3) := by decide +kernel
theorem dX8_store_28 : decode cX8_store 28 = .ok (.iconst 1, 1) := by decide +kernel
theorem dX8_store_29 : decode cX8_store 29 = .ok (.iload_n 1, 1) := by decide +kernel
theorem dX8_store_30 : decode cX8_store 30 = .ok (.isub, 1) := by decide +kernel
theorem dX8_store_31 : decode cX8_store 31 = .ok (.iconst 4, 1) := by decide +kernel
theorem dX8_store_32 : decode cX8_store 32 = .ok (.imul, 1) := by decide +kernel
theorem dX8_store_33 : decode cX8_store 33 = .ok (.istore_n 2, 1) := by decide +kernel
theorem dX8_store_34 : decode cX8_store 34 = .ok (.aload_n 0, 1) := by decide +kernel
theorem dX8_store_35 : decode cX8_store 35 = .ok (.getfield 27, 3) := by decide +kernel
theorem dX8_store_38 : decode cX8_store 38 = .ok (.bipush 9, 2) := by decide +kernel
theorem dX8_store_40 : decode cX8_store 40 = .ok (.iload_n 1, 1) := by decide +kernel
theorem dX8_store_41 : decode cX8_store 41 = .ok (.isub, 1) := by decide +kernel
theorem dX8_store_42 : decode cX8_store 42 = .ok (.invokevirtual 96, 3) := by decide +kernel
theorem dX8_store_45 : decode cX8_store 45 = .ok (.aload_n 0, 1) := by decide +kernel
theorem dX8_store_46 : decode cX8_store 46 = .ok (.aload_n 0, 1) := by decide +kernel
theorem dX8_store_47 : decode cX8_store 47 = .ok (.getfield 24, 3) := by decide +kernel
theorem dX8_store_50 : decode cX8_store 50 = .ok (.iconst 1, 1) := by decide +kernel
theorem dX8_store_51 : decode cX8_store 51 = .ok (.iadd, 1) := by decide +kernel
theorem dX8_store_52 : decode cX8_store 52 = .ok (.invokevirtual 47, 3) := by decide +kernel
theorem dX8_store_55 : decode cX8_store 55 = .ok (.aload_n 0, 1) := by decide +kernel
theorem dX8_store_56 : decode cX8_store 56 = .ok (.getfield 27, 3) := by decide +kernel
theorem dX8_store_59 : decode cX8_store 59 = .ok (.bipush 32, 2) := by decide +kernel
theorem dX8_store_61 : decode cX8_store 61 = .ok (.iload_n 2, 1) := by decide +kernel
theorem dX8_store_62 : decode cX8_store 62 = .ok (.iadd, 1) := by decide +kernel
theorem dX8_store_63 : decode cX8_store 63 = .ok (.aload_n 0, 1) := by decide +kernel
theorem dX8_store_64 : decode cX8_store 64 = .ok (.getfield 14, 3) := by decide +kernel
theorem dX8_store_67 : decode cX8_store 67 = .ok (.iconst 0, 1) := by decide +kernel
theorem dX8_store_68 : decode cX8_store 68 = .ok (.invokevirtual 99, 3) := by decide +kernel
theorem dX8_store_71 : decode cX8_store 71 = .ok (.aload_n 0, 1) := by decide +kernel
theorem dX8_store_72 : decode cX8_store 72 = .ok (.invokevirtual 54, 3) := by decide +kernel
theorem dX8_store_75 : decode cX8_store 75 = .ok (.return_, 1) := by decide +kernel
theorem dX8_nextBlank_0 : decode cX8_nextBlank 0 = .ok (.aload_n 0, 1) := by decide +kernel
theorem dX8_nextBlank_1 : decode cX8_nextBlank 1 = .ok (.getfield 20, 3) := by decide +kernel
theorem dX8_nextBlank_4 : decode cX8_nextBlank 4 = .ok (.iconst 1, 1) := by decide +kernel
theorem dX8_nextBlank_5 : decode cX8_nextBlank 5 = .ok (.iadd, 1) := by decide +kernel
theorem dX8_nextBlank_6 : decode cX8_nextBlank 6 = .ok (.istore_n 2, 1) := by decide +kernel
theorem dX8_nextBlank_7 : decode cX8_nextBlank 7 = .ok (.iload_n 2, 1) := by decide +kernel
theorem dX8_nextBlank_8 : decode cX8_nextBlank 8 = .ok (.iload_n 1, 1) := by decide +kernel
theorem dX8_nextBlank_9 : decode cX8_nextBlank 9 = .ok (.iconst 1, 1) := by decide +kernel
theorem dX8_nextBlank_10 : decode cX8_nextBlank 10 = .ok (.iadd, 1) := by decide +kernel
theorem dX8_nextBlank_11 : decode cX8_nextBlank 11 = .ok (.iconst 4, 1) := by decide +kernel
theorem dX8_nextBlank_12 : decode cX8_nextBlank 12 = .ok (.imul, 1) := by decide +kernel
theorem dX8_nextBlank_13 : decode cX8_nextBlank 13 = .ok (.if_icmp .ge 25, 3) := by decide +kernel
theorem dX8_nextBlank_16 : decode cX8_nextBlank 16 = .ok (.aload_n 0, 1) := by decide +kernel
theorem dX8_nextBlank_17 : decode cX8_nextBlank 17 = .ok (.getfield 27, 3) := by decide +kernel
theorem dX8_nextBlank_20 : decode cX8_nextBlank 20 = .ok (.bipush 32, 2) := by decide +kernel
theorem dX8_nextBlank_22 : decode cX8_nextBlank 22 = .ok (.iload_n 2, 1) := by decide +kernel
theorem dX8_nextBlank_23 : decode cX8_nextBlank 23 = .ok (.iadd, 1) := by decide +kernel
theorem dX8_nextBlank_24 : decode cX8_nextBlank 24 = .ok (.invokevirtual 102, 3) := by decide +kernel
theorem dX8_nextBlank_27 : decode cX8_nextBlank 27 = .ok (.ifCond .eq 5, 3) := by decide +kernel
theorem dX8_nextBlank_30 : decode cX8_nextBlank 30 = .ok (.iload_n 2, 1) := by decide +kernel
theorem dX8_nextBlank_31 : decode cX8_nextBlank 31 = .ok (.ireturn, 1) := by decide +kernel
theorem dX8_nextBlank_32 : decode cX8_nextBlank 32 = .ok (.iinc 2 1, 3) := by decide +kernel
theorem dX8_nextBlank_35 : decode cX8_nextBlank 35 = .ok (.goto (-28), 3) := by decide +kernel
theorem dX8_nextBlank_38 : decode cX8_nextBlank 38 = .ok (.iconst (-1), 1) := by decide +kernel
theorem dX8_nextBlank_39 : decode cX8_nextBlank 39 = .ok (.ireturn, 1) := by decide +kernel
theorem dX8_compose_0 : decode cX8_compose 0 = .ok (.aload_n 0, 1) := by decide +kernel
theorem dX8_compose_1 : decode cX8_compose 1 = .ok (.getfield 14, 3) := by decide +kernel
theorem dX8_compose_4 : decode cX8_compose 4 = .ok (.invokevirtual 106, 3) := by decide +kernel
theorem dX8_compose_7 : decode cX8_compose 7 = .ok (.aload_n 0, 1) := by decide +kernel
theorem dX8_compose_8 : decode cX8_compose 8 = .ok (.getfield 14, 3) := by decide +kernel
theorem dX8_compose_11 : decode cX8_compose 11 = .ok (.iload_n 1, 1) := by decide +kernel
theorem dX8_compose_12 : decode cX8_compose 12 = .ok (.i2l, 1) := by decide +kernel
theorem dX8_compose_13 : decode cX8_compose 13 = .ok (.iconst 4, 1) := by decide +kernel
theorem dX8_compose_14 : decode cX8_compose 14 = .ok (.invokevirtual 109, 3) := by decide +kernel
theorem dX8_compose_17 : decode cX8_compose 17 = .ok (.aload_n 0, 1) := by decide +kernel
theorem dX8_compose_18 : decode cX8_compose 18 = .ok (.getfield 14, 3) := by decide +kernel
theorem dX8_compose_21 : decode cX8_compose 21 = .ok (.aload_n 0, 1) := by decide +kernel
theorem dX8_compose_22 : decode cX8_compose 22 = .ok (.getfield 57, 3) := by decide +kernel
theorem dX8_compose_25 : decode cX8_compose 25 = .ok (.i2l, 1) := by decide +kernel
theorem dX8_compose_26 : decode cX8_compose 26 = .ok (.iconst 1, 1) := by decide +kernel
theorem dX8_compose_27 : decode cX8_compose 27 = .ok (.invokevirtual 109, 3) := by decide +kernel
theorem dX8_compose_30 : decode cX8_compose 30 = .ok (.aload_n 0, 1) := by decide +kernel
theorem dX8_compose_31 : decode cX8_compose 31 = .ok (.getfield 14, 3) := by decide +kernel
theorem dX8_compose_34 : decode cX8_compose 34 = .ok (.aload_n 0, 1) := by decide +kernel
theorem dX8_compose_35 : decode cX8_compose 35 = .ok (.getfield 60, 3) := by decide +kernel
theorem dX8_compose_38 : decode cX8_compose 38 = .ok (.i2l, 1) := by decide +kernel
theorem dX8_compose_39 : decode cX8_compose 39 = .ok (.iconst 2, 1) := by decide +kernel
theorem dX8_compose_40 : decode cX8_compose 40 = .ok (.invokevirtual 109, 3) := by decide +kernel
theorem dX8_compose_43 : decode cX8_compose 43 = .ok (.aload_n 0, 1) := by decide +kernel
theorem dX8_compose_44 : decode cX8_compose 44 = .ok (.getfield 14, 3) := by decide +kernel
theorem dX8_compose_47 : decode cX8_compose 47 = .ok (.aload_n 0, 1) := by decide +kernel
theorem dX8_compose_48 : decode cX8_compose 48 = .ok (.getfield 63, 3) := by decide +kernel
theorem dX8_compose_51 : decode cX8_compose 51 = .ok (.i2l, 1) := by decide +kernel
theorem dX8_compose_52 : decode cX8_compose 52 = .ok (.iconst 2, 1) := by decide +kernel
theorem dX8_compose_53 : decode cX8_compose 53 = .ok (.invokevirtual 109, 3) := by decide +kernel
theorem dX8_compose_56 : decode cX8_compose 56 = .ok (.aload_n 0, 1) := by decide +kernel
theorem dX8_compose_57 : decode cX8_compose 57 = .ok (.getfield 14, 3) := by decide +kernel
theorem dX8_compose_60 : decode cX8_compose 60 = .ok (.aload_n 0, 1) := by decide +kernel
theorem dX8_compose_61 : decode cX8_compose 61 = .ok (.getfield 66, 3) := by decide +kernel
theorem dX8_compose_64 : decode cX8_compose 64 = .ok (.bipush 6, 2) := by decide +kernel
theorem dX8_compose_66 : decode cX8_compose 66 = .ok (.invokevirtual 109, 3) := by decide +kernel
theorem dX8_compose_69 : decode cX8_compose 69 = .ok (.aload_n 0, 1) := by decide +kernel
theorem dX8_compose_70 : decode cX8_compose 70 = .ok (.getfield 14, 3) := by decide +kernel
theorem dX8_compose_73 : decode cX8_compose 73 = .ok (.aload_n 0, 1) := by decide +kernel
theorem dX8_compose_74 : decode cX8_compose 74 = .ok (.getfield 73, 3) := by decide +kernel
theorem dX8_compose_77 : decode cX8_compose 77 = .ok (.i2l, 1) := by decide +kernel
theorem dX8_compose_78 : decode cX8_compose 78 = .ok (.iconst 1, 1) := by decide +kernel
theorem dX8_compose_79 : decode cX8_compose 79 = .ok (.invokevirtual 109, 3) := by decide +kernel
theorem dX8_compose_82 : decode cX8_compose 82 = .ok (.aload_n 0, 1) := by decide +kernel
theorem dX8_compose_83 : decode cX8_compose 83 = .ok (.getfield 14, 3) := by decide +kernel
theorem dX8_compose_86 : decode cX8_compose 86 = .ok (.aload_n 0, 1) := by decide +kernel
theorem dX8_compose_87 : decode cX8_compose 87 = .ok (.getfield 76, 3) := by decide +kernel
theorem dX8_compose_90 : decode cX8_compose 90 = .ok (.i2l, 1) := by decide +kernel
theorem dX8_compose_91 : decode cX8_compose 91 = .ok (.iconst 2, 1) := by decide +kernel
theorem dX8_compose_92 : decode cX8_compose 92 = .ok (.invokevirtual 109, 3) := by decide +kernel
theorem dX8_compose_95 : decode cX8_compose 95 = .ok (.aload_n 0, 1) := by decide +kernel
theorem dX8_compose_96 : decode cX8_compose 96 = .ok (.getfield 14, 3) := by decide +kernel
theorem dX8_compose_99 : decode cX8_compose 99 = .ok (.aload_n 0, 1) := by decide +kernel
theorem dX8_compose_100 : decode cX8_compose 100 = .ok (.getfield 79, 3) := by decide +kernel
theorem dX8_compose_103 : decode cX8_compose 103 = .ok (.i2l, 1) := by decide +kernel
theorem dX8_compose_104 : decode cX8_compose 104 = .ok (.iconst 2, 1) := by decide +kernel
theorem dX8_compose_105 : decode cX8_compose 105 = .ok (.invokevirtual 109, 3) := by decide +kernel
theorem dX8_compose_108 : decode cX8_compose 108 = .ok (.aload_n 0, 1) := by decide +kernel
theorem dX8_compose_109 : decode cX8_compose 109 = .ok (.getfield 14, 3) := by decide +kernel
theorem dX8_compose_112 : decode cX8_compose 112 = .ok (.aload_n 0, 1) := by decide +kernel
theorem dX8_compose_113 : decode cX8_compose 113 = .ok (.getfield 82, 3) := by decide +kernel
theorem dX8_compose_116 : decode cX8_compose 116 = .ok (.bipush 6, 2) := by decide +kernel
theorem dX8_compose_118 : decode cX8_compose 118 = .ok (.invokevirtual 109, 3) := by decide +kernel
theorem dX8_compose_121 : decode cX8_compose 121 = .ok (.aload_n 0, 1) := by decide +kernel
theorem dX8_compose_122 : decode cX8_compose 122 = .ok (.getfield 14, 3) := by decide +kernel
theorem dX8_compose_125 : decode cX8_compose 125 = .ok (.lconst 0, 1) := by decide +kernel
theorem dX8_compose_126 : decode cX8_compose 126 = .ok (.iconst 2, 1) := by decide +kernel
theorem dX8_compose_127 : decode cX8_compose 127 = .ok (.invokevirtual 109, 3) := by decide +kernel
theorem dX8_compose_130 : decode cX8_compose 130 = .ok (.aload_n 0, 1) := by decide +kernel
theorem dX8_compose_131 : decode cX8_compose 131 = .ok (.getfield 14, 3) := by decide +kernel
theorem dX8_compose_134 : decode cX8_compose 134 = .ok (.aload_n 0, 1) := by decide +kernel
theorem dX8_compose_135 : decode cX8_compose 135 = .ok (.getfield 14, 3) := by decide +kernel
theorem dX8_compose_138 : decode cX8_compose 138 = .ok (.iconst 0, 1) := by decide +kernel
theorem dX8_compose_139 : decode cX8_compose 139 = .ok (.bipush 28, 2) := by decide +kernel
theorem dX8_compose_141 : decode cX8_compose 141 = .ok (.invokevirtual 113, 3) := by decide +kernel
theorem dX8_compose_144 : decode cX8_compose 144 = .ok (.invokestatic 115, 3) := by decide +kernel
theorem dX8_compose_147 : decode cX8_compose 147 = .ok (.iconst 4, 1) := by decide +kernel
theorem dX8_compose_148 : decode cX8_compose 148 = .ok (.invokevirtual 109, 3) := by decide +kernel
theorem dX8_compose_151 : decode cX8_compose 151 = .ok (.return_, 1) := by decide +kernel
theorem dX8_look_0 : decode cX8_look 0 = .ok (.aload_n 0, 1) := by decide +kernel
theorem dX8_look_1 : decode cX8_look 1 = .ok (.invokevirtual 44, 3) := by decide +kernel
theorem dX8_look_4 : decode cX8_look 4 = .ok (.iconst 0, 1) := by decide +kernel
theorem dX8_look_5 : decode cX8_look 5 = .ok (.istore_n 1, 1) := by decide +kernel
theorem dX8_look_6 : decode cX8_look 6 = .ok (.iload_n 1, 1) := by decide +kernel
theorem dX8_look_7 : decode cX8_look 7 = .ok (.bipush 8, 2) := by decide +kernel
theorem dX8_look_9 : decode cX8_look 9 = .ok (.if_icmp .ge 67, 3) := by decide +kernel
theorem dX8_look_12 : decode cX8_look 12 = .ok (.bipush 32, 2) := by decide +kernel
theorem dX8_look_14 : decode cX8_look 14 = .ok (.iload_n 1, 1) := by decide +kernel
theorem dX8_look_15 : decode cX8_look 15 = .ok (.iadd, 1) := by decide +kernel
theorem dX8_look_16 : decode cX8_look 16 = .ok (.bipush 32, 2) := by decide +kernel
theorem dX8_look_18 : decode cX8_look 18 = .ok (.imul, 1) := by decide +kernel
theorem dX8_look_19 : decode cX8_look 19 = .ok (.istore_n 2, 1) := by decide +kernel
theorem dX8_look_20 : decode cX8_look 20 = .ok (.aload_n 0, 1) := by decide +kernel
theorem dX8_look_21 : decode cX8_look 21 = .ok (.getfield 27, 3) := by decide +kernel
theorem dX8_look_24 : decode cX8_look 24 = .ok (.getfield 119, 3) := by decide +kernel
theorem dX8_look_27 : decode cX8_look 27 = .ok (.iload_n 2, 1) := by decide +kernel
theorem dX8_look_28 : decode cX8_look 28 = .ok (.iconst 4, 1) := by decide +kernel
theorem dX8_look_29 : decode cX8_look 29 = .ok (.invokevirtual 122, 3) := by decide +kernel
theorem dX8_look_32 : decode cX8_look 32 = .ok (.lstore_n 3, 1) := by decide +kernel
theorem dX8_look_33 : decode cX8_look 33 = .ok (.lload_n 3, 1) := by decide +kernel
theorem dX8_look_34 : decode cX8_look 34 = .ok (.aload_n 0, 1) := by decide +kernel
theorem dX8_look_35 : decode cX8_look 35 = .ok (.getfield 24, 3) := by decide +kernel
theorem dX8_look_38 : decode cX8_look 38 = .ok (.i2l, 1) := by decide +kernel
theorem dX8_look_39 : decode cX8_look 39 = .ok (.lcmp, 1) := by decide +kernel
theorem dX8_look_40 : decode cX8_look 40 = .ok (.ifCond .le 30, 3) := by decide +kernel
theorem dX8_look_43 : decode cX8_look 43 = .ok (.lload_n 3, 1) := by decide +kernel
theorem dX8_look_44 : decode cX8_look 44 = .ok (.ldc2_w 124, 3) := by decide +kernel
theorem dX8_look_47 : decode cX8_look 47 = .ok (.lcmp, 1) := by decide +kernel
theorem dX8_look_48 : decode cX8_look 48 = .ok (.ifCond .gt 22, 3) := by decide +kernel
theorem dX8_look_51 : decode cX8_look 51 = .ok (.aload_n 0, 1) := by decide +kernel
theorem dX8_look_52 : decode cX8_look 52 = .ok (.iload_n 2, 1) := by decide +kernel
theorem dX8_look_53 : decode cX8_look 53 = .ok (.invokevirtual 126, 3) := by decide +kernel
theorem dX8_look_56 : decode cX8_look 56 = .ok (.ifCond .eq 14, 3) := by decide +kernel
theorem dX8_look_59 : decode cX8_look 59 = .ok (.aload_n 0, 1) := by decide +kernel
theorem dX8_look_60 : decode cX8_look 60 = .ok (.iload_n 1, 1) := by decide +kernel
theorem dX8_look_61 : decode cX8_look 61 = .ok (.putfield 20, 3) := by decide +kernel
theorem dX8_look_64 : decode cX8_look 64 = .ok (.aload_n 0, 1) := by decide +kernel
theorem dX8_look_65 : decode cX8_look 65 = .ok (.lload_n 3, 1) := by decide +kernel
theorem dX8_look_66 : decode cX8_look 66 = .ok (.l2i, 1) := by decide +kernel
theorem dX8_look_67 : decode cX8_look 67 = .ok (.putfield 24, 3) := by decide +kernel
theorem dX8_look_70 : decode cX8_look 70 = .ok (.iinc 1 1, 3) := by decide +kernel
theorem dX8_look_73 : decode cX8_look 73 = .ok (.goto (-67), 3) := by decide +kernel
theorem dX8_look_76 : decode cX8_look 76 = .ok (.aload_n 0, 1) := by decide +kernel
theorem dX8_look_77 : decode cX8_look 77 = .ok (.getfield 20, 3) := by decide +kernel
theorem dX8_look_80 : decode cX8_look 80 = .ok (.ifCond .lt 17, 3) := by decide +kernel
theorem dX8_look_83 : decode cX8_look 83 = .ok (.aload_n 0, 1) := by decide +kernel
theorem dX8_look_84 : decode cX8_look 84 = .ok (.bipush 32, 2) := by decide +kernel
theorem dX8_look_86 : decode cX8_look 86 = .ok (.aload_n 0, 1) := by decide +kernel
theorem dX8_look_87 : decode cX8_look 87 = .ok (.getfield 20, 3) := by decide +kernel
theorem dX8_look_90 : decode cX8_look 90 = .ok (.iadd, 1) := by decide +kernel
theorem dX8_look_91 : decode cX8_look 91 = .ok (.bipush 32, 2) := by decide +kernel
theorem dX8_look_93 : decode cX8_look 93 = .ok (.imul, 1) := by decide +kernel
theorem dX8_look_94 : decode cX8_look 94 = .ok (.invokevirtual 129, 3) := by decide +kernel
theorem dX8_look_97 : decode cX8_look 97 = .ok (.return_, 1) := by decide +kernel
theorem dX8_fits_0 : decode cX8_fits 0 = .ok (.aload_n 0, 1) := by decide +kernel
theorem dX8_fits_1 : decode cX8_fits 1 = .ok (.getfield 27, 3) := by decide +kernel
theorem dX8_fits_4 : decode cX8_fits 4 = .ok (.getfield 119, 3) := by decide +kernel
theorem dX8_fits_7 : decode cX8_fits 7 = .ok (.astore_n 2, 1) := by decide +kernel
theorem dX8_fits_8 : decode cX8_fits 8 = .ok (.aload_n 2, 1) := by decide +kernel
theorem dX8_fits_9 : decode cX8_fits 9 = .ok (.iload_n 1, 1) := by decide +kernel
theorem dX8_fits_10 : decode cX8_fits 10 = .ok (.bipush 28, 2) := by decide +kernel
theorem dX8_fits_12 : decode cX8_fits 12 = .ok (.invokevirtual 113, 3) := by decide +kernel
theorem dX8_fits_15 : decode cX8_fits 15 = .ok (.invokestatic 115, 3) := by decide +kernel
theorem dX8_fits_18 : decode cX8_fits 18 = .ok (.aload_n 2, 1) := by decide +kernel
theorem dX8_fits_19 : decode cX8_fits 19 = .ok (.iload_n 1, 1) := by decide +kernel
theorem dX8_fits_20 : decode cX8_fits 20 = .ok (.bipush 28, 2) := by decide +kernel
theorem dX8_fits_22 : decode cX8_fits 22 = .ok (.iadd, 1) := by decide +kernel
theorem dX8_fits_23 : decode cX8_fits 23 = .ok (.iconst 4, 1) := by decide +kernel
theorem dX8_fits_24 : decode cX8_fits 24 = .ok (.invokevirtual 122, 3) := by decide +kernel
theorem dX8_fits_27 : decode cX8_fits 27 = .ok (.lcmp, 1) := by decide +kernel
theorem dX8_fits_28 : decode cX8_fits 28 = .ok (.ifCond .eq 5, 3) := by decide +kernel
theorem dX8_fits_31 : decode cX8_fits 31 = .ok (.iconst 0, 1) := by decide +kernel
theorem dX8_fits_32 : decode cX8_fits 32 = .ok (.ireturn, 1) := by decide +kernel
theorem dX8_fits_33 : decode cX8_fits 33 = .ok (.aload_n 2, 1) := by decide +kernel
theorem dX8_fits_34 : decode cX8_fits 34 = .ok (.iload_n 1, 1) := by decide +kernel
theorem dX8_fits_35 : decode cX8_fits 35 = .ok (.bipush 15, 2) := by decide +kernel
theorem dX8_fits_37 : decode cX8_fits 37 = .ok (.iadd, 1) := by decide +kernel
theorem dX8_fits_38 : decode cX8_fits 38 = .ok (.invokevirtual 132, 3) := by decide +kernel
theorem dX8_fits_41 : decode cX8_fits 41 = .ok (.istore_n 3, 1) := by decide +kernel
theorem dX8_fits_42 : decode cX8_fits 42 = .ok (.aload_n 2, 1) := by decide +kernel
theorem dX8_fits_43 : decode cX8_fits 43 = .ok (.iload_n 1, 1) := by decide +kernel
theorem dX8_fits_44 : decode cX8_fits 44 = .ok (.bipush 16, 2) := by decide +kernel
theorem dX8_fits_46 : decode cX8_fits 46 = .ok (.iadd, 1) := by decide +kernel
theorem dX8_fits_47 : decode cX8_fits 47 = .ok (.iconst 2, 1) := by decide +kernel
theorem dX8_fits_48 : decode cX8_fits 48 = .ok (.invokevirtual 122, 3) := by decide +kernel
theorem dX8_fits_51 : decode cX8_fits 51 = .ok (.lstore 4, 2) := by decide +kernel
theorem dX8_fits_53 : decode cX8_fits 53 = .ok (.aload_n 2, 1) := by decide +kernel
theorem dX8_fits_54 : decode cX8_fits 54 = .ok (.iload_n 1, 1) := by decide +kernel
theorem dX8_fits_55 : decode cX8_fits 55 = .ok (.bipush 18, 2) := by decide +kernel
theorem dX8_fits_57 : decode cX8_fits 57 = .ok (.iadd, 1) := by decide +kernel
theorem dX8_fits_58 : decode cX8_fits 58 = .ok (.iconst 2, 1) := by decide +kernel
theorem dX8_fits_59 : decode cX8_fits 59 = .ok (.invokevirtual 122, 3) := by decide +kernel
theorem dX8_fits_62 : decode cX8_fits 62 = .ok (.lstore 6, 2) := by decide +kernel
theorem dX8_fits_64 : decode cX8_fits 64 = .ok (.iload_n 3, 1) := by decide +kernel
theorem dX8_fits_65 : decode cX8_fits 65 = .ok (.ifCond .ne 18, 3) := by decide +kernel
theorem dX8_fits_68 : decode cX8_fits 68 = .ok (.lload 6, 2) := by decide +kernel
theorem dX8_fits_70 : decode cX8_fits 70 = .ok (.lconst 0, 1) := by decide +kernel
theorem dX8_fits_71 : decode cX8_fits 71 = .ok (.lcmp, 1) := by decide +kernel
theorem dX8_fits_72 : decode cX8_fits 72 = .ok (.ifCond .ne 7, 3) := by decide +kernel
theorem dX8_fits_75 : decode cX8_fits 75 = .ok (.iconst 1, 1) := by decide +kernel
theorem dX8_fits_76 : decode cX8_fits 76 = .ok (.goto 32, 3) := by decide +kernel
theorem dX8_fits_79 : decode cX8_fits 79 = .ok (.iconst 0, 1) := by decide +kernel
theorem dX8_fits_80 : decode cX8_fits 80 = .ok (.goto 28, 3) := by decide +kernel
theorem dX8_fits_83 : decode cX8_fits 83 = .ok (.iload_n 3, 1) := by decide +kernel
theorem dX8_fits_84 : decode cX8_fits 84 = .ok (.iconst 3, 1) := by decide +kernel
theorem dX8_fits_85 : decode cX8_fits 85 = .ok (.if_icmp .gt 22, 3) := by decide +kernel
theorem dX8_fits_88 : decode cX8_fits 88 = .ok (.lload 4, 2) := by decide +kernel
theorem dX8_fits_90 : decode cX8_fits 90 = .ok (.lconst 0, 1) := by decide +kernel
theorem dX8_fits_91 : decode cX8_fits 91 = .ok (.lcmp, 1) := by decide +kernel
theorem dX8_fits_92 : decode cX8_fits 92 = .ok (.ifCond .le 15, 3) := by decide +kernel
theorem dX8_fits_95 : decode cX8_fits 95 = .ok (.lload 6, 2) := by decide +kernel
theorem dX8_fits_97 : decode cX8_fits 97 = .ok (.invokestatic 135, 3) := by decide +kernel
theorem dX8_fits_100 : decode cX8_fits 100 = .ok (.ifCond .eq 7, 3) := by decide +kernel
theorem dX8_fits_103 : decode cX8_fits 103 = .ok (.iconst 1, 1) := by decide +kernel
theorem dX8_fits_104 : decode cX8_fits 104 = .ok (.goto 4, 3) := by decide +kernel
theorem dX8_fits_107 : decode cX8_fits 107 = .ok (.iconst 0, 1) := by decide +kernel
theorem dX8_fits_108 : decode cX8_fits 108 = .ok (.istore 8, 2) := by decide +kernel
theorem dX8_fits_110 : decode cX8_fits 110 = .ok (.iload 8, 2) := by decide +kernel
theorem dX8_fits_112 : decode cX8_fits 112 = .ok (.ifCond .eq 60, 3) := by decide +kernel
theorem dX8_fits_115 : decode cX8_fits 115 = .ok (.aload_n 2, 1) := by decide +kernel
theorem dX8_fits_116 : decode cX8_fits 116 = .ok (.iload_n 1, 1) := by decide +kernel
theorem dX8_fits_117 : decode cX8_fits 117 = .ok (.iconst 4, 1) := by decide +kernel
theorem dX8_fits_118 : decode cX8_fits 118 = .ok (.iadd, 1) := by decide +kernel
theorem dX8_fits_119 : decode cX8_fits 119 = .ok (.invokevirtual 132, 3) := by decide +kernel
theorem dX8_fits_122 : decode cX8_fits 122 = .ok (.iconst 1, 1) := by decide +kernel
theorem dX8_fits_123 : decode cX8_fits 123 = .ok (.if_icmp .gt 49, 3) := by decide +kernel
theorem dX8_fits_126 : decode cX8_fits 126 = .ok (.aload_n 2, 1) := by decide +kernel
theorem dX8_fits_127 : decode cX8_fits 127 = .ok (.iload_n 1, 1) := by decide +kernel
theorem dX8_fits_128 : decode cX8_fits 128 = .ok (.iconst 5, 1) := by decide +kernel
theorem dX8_fits_129 : decode cX8_fits 129 = .ok (.iadd, 1) := by decide +kernel
theorem dX8_fits_130 : decode cX8_fits 130 = .ok (.iconst 2, 1) := by decide +kernel
theorem dX8_fits_131 : decode cX8_fits 131 = .ok (.invokevirtual 122, 3) := by decide +kernel
theorem dX8_fits_134 : decode cX8_fits 134 = .ok (.lconst 0, 1) := by decide +kernel
theorem dX8_fits_135 : decode cX8_fits 135 = .ok (.lcmp, 1) := by decide +kernel
theorem dX8_fits_136 : decode cX8_fits 136 = .ok (.ifCond .le 36, 3) := by decide +kernel
theorem dX8_fits_139 : decode cX8_fits 139 = .ok (.aload_n 2, 1) := by decide +kernel
theorem dX8_fits_140 : decode cX8_fits 140 = .ok (.iload_n 1, 1) := by decide +kernel
theorem dX8_fits_141 : decode cX8_fits 141 = .ok (.bipush 7, 2) := by decide +kernel
theorem dX8_fits_143 : decode cX8_fits 143 = .ok (.iadd, 1) := by decide +kernel
theorem dX8_fits_144 : decode cX8_fits 144 = .ok (.iconst 2, 1) := by decide +kernel
theorem dX8_fits_145 : decode cX8_fits 145 = .ok (.invokevirtual 122, 3) := by decide +kernel
theorem dX8_fits_148 : decode cX8_fits 148 = .ok (.invokestatic 135, 3) := by decide +kernel
theorem dX8_fits_151 : decode cX8_fits 151 = .ok (.ifCond .eq 21, 3) := by decide +kernel
theorem dX8_fits_154 : decode cX8_fits 154 = .ok (.aload_n 2, 1) := by decide +kernel
theorem dX8_fits_155 : decode cX8_fits 155 = .ok (.iload_n 1, 1) := by decide +kernel
theorem dX8_fits_156 : decode cX8_fits 156 = .ok (.bipush 26, 2) := by decide +kernel
theorem dX8_fits_158 : decode cX8_fits 158 = .ok (.iadd, 1) := by decide +kernel
theorem dX8_fits_159 : decode cX8_fits 159 = .ok (.iconst 2, 1) := by decide +kernel
theorem dX8_fits_160 : decode cX8_fits 160 = .ok (.invokevirtual 122, 3) := by decide +kernel
theorem dX8_fits_163 : decode cX8_fits 163 = .ok (.lconst 0, 1) := by decide +kernel
theorem dX8_fits_164 : decode cX8_fits 164 = .ok (.lcmp, 1) := by decide +kernel
theorem dX8_fits_165 : decode cX8_fits 165 = .ok (.ifCond .ne 7, 3) := by decide +kernel
theorem dX8_fits_168 : decode cX8_fits 168 = .ok (.iconst 1, 1) := by decide +kernel
theorem dX8_fits_169 : decode cX8_fits 169 = .ok (.goto 4, 3) := by decide +kernel
theorem dX8_fits_172 : decode cX8_fits 172 = .ok (.iconst 0, 1) := by decide +kernel
theorem dX8_fits_173 : decode cX8_fits 173 = .ok (.ireturn, 1) := by decide +kernel
theorem dX8_isProgramLength_0 : decode cX8_isProgramLength 0 = .ok (.lload_n 0, 1) := by decide +kernel
theorem dX8_isProgramLength_1 : decode cX8_isProgramLength 1 = .ok (.lconst 1, 1) := by decide +kernel
theorem dX8_isProgramLength_2 : decode cX8_isProgramLength 2 = .ok (.lcmp, 1) := by decide +kernel
theorem dX8_isProgramLength_3 : decode cX8_isProgramLength 3 = .ok (.ifCond .lt 15, 3) := by decide +kernel
theorem dX8_isProgramLength_6 : decode cX8_isProgramLength 6 = .ok (.lload_n 0, 1) := by decide +kernel
theorem dX8_isProgramLength_7 : decode cX8_isProgramLength 7 = .ok (.ldc2_w 139, 3) := by decide +kernel
theorem dX8_isProgramLength_10 : decode cX8_isProgramLength 10 = .ok (.lcmp, 1) := by decide +kernel
theorem dX8_isProgramLength_11 : decode cX8_isProgramLength 11 = .ok (.ifCond .gt 7, 3) := by decide +kernel
theorem dX8_isProgramLength_14 : decode cX8_isProgramLength 14 = .ok (.iconst 1, 1) := by decide +kernel
theorem dX8_isProgramLength_15 : decode cX8_isProgramLength 15 = .ok (.goto 4, 3) := by decide +kernel
theorem dX8_isProgramLength_18 : decode cX8_isProgramLength 18 = .ok (.iconst 0, 1) := by decide +kernel
theorem dX8_isProgramLength_19 : decode cX8_isProgramLength 19 = .ok (.ireturn, 1) := by decide +kernel
theorem dX8_load_0 : decode cX8_load 0 = .ok (.aload_n 0, 1) := by decide +kernel
theorem dX8_load_1 : decode cX8_load 1 = .ok (.getfield 27, 3) := by decide +kernel
theorem dX8_load_4 : decode cX8_load 4 = .ok (.getfield 119, 3) := by decide +kernel
theorem dX8_load_7 : decode cX8_load 7 = .ok (.astore_n 2, 1) := by decide +kernel
theorem dX8_load_8 : decode cX8_load 8 = .ok (.aload_n 0, 1) := by decide +kernel
theorem dX8_load_9 : decode cX8_load 9 = .ok (.aload_n 2, 1) := by decide +kernel
theorem dX8_load_10 : decode cX8_load 10 = .ok (.iload_n 1, 1) := by decide +kernel
theorem dX8_load_11 : decode cX8_load 11 = .ok (.iconst 4, 1) := by decide +kernel
theorem dX8_load_12 : decode cX8_load 12 = .ok (.iadd, 1) := by decide +kernel
theorem dX8_load_13 : decode cX8_load 13 = .ok (.invokevirtual 132, 3) := by decide +kernel
theorem dX8_load_16 : decode cX8_load 16 = .ok (.putfield 57, 3) := by decide +kernel
theorem dX8_load_19 : decode cX8_load 19 = .ok (.aload_n 0, 1) := by decide +kernel
theorem dX8_load_20 : decode cX8_load 20 = .ok (.aload_n 2, 1) := by decide +kernel
theorem dX8_load_21 : decode cX8_load 21 = .ok (.iload_n 1, 1) := by decide +kernel
theorem dX8_load_22 : decode cX8_load 22 = .ok (.iconst 5, 1) := by decide +kernel
theorem dX8_load_23 : decode cX8_load 23 = .ok (.iadd, 1) := by decide +kernel
theorem dX8_load_24 : decode cX8_load 24 = .ok (.iconst 2, 1) := by decide +kernel
theorem dX8_load_25 : decode cX8_load 25 = .ok (.invokevirtual 122, 3) := by decide +kernel
theorem dX8_load_28 : decode cX8_load 28 = .ok (.l2i, 1) := by decide +kernel
theorem dX8_load_29 : decode cX8_load 29 = .ok (.putfield 60, 3) := by decide +kernel
theorem dX8_load_32 : decode cX8_load 32 = .ok (.aload_n 0, 1) := by decide +kernel
theorem dX8_load_33 : decode cX8_load 33 = .ok (.aload_n 2, 1) := by decide +kernel
theorem dX8_load_34 : decode cX8_load 34 = .ok (.iload_n 1, 1) := by decide +kernel
theorem dX8_load_35 : decode cX8_load 35 = .ok (.bipush 7, 2) := by decide +kernel
theorem dX8_load_37 : decode cX8_load 37 = .ok (.iadd, 1) := by decide +kernel
theorem dX8_load_38 : decode cX8_load 38 = .ok (.iconst 2, 1) := by decide +kernel
theorem dX8_load_39 : decode cX8_load 39 = .ok (.invokevirtual 122, 3) := by decide +kernel
theorem dX8_load_42 : decode cX8_load 42 = .ok (.l2i, 1) := by decide +kernel
theorem dX8_load_43 : decode cX8_load 43 = .ok (.putfield 63, 3) := by decide +kernel
theorem dX8_load_46 : decode cX8_load 46 = .ok (.aload_n 0, 1) := by decide +kernel
theorem dX8_load_47 : decode cX8_load 47 = .ok (.aload_n 2, 1) := by decide +kernel
theorem dX8_load_48 : decode cX8_load 48 = .ok (.iload_n 1, 1) := by decide +kernel
theorem dX8_load_49 : decode cX8_load 49 = .ok (.bipush 9, 2) := by decide +kernel
theorem dX8_load_51 : decode cX8_load 51 = .ok (.iadd, 1) := by decide +kernel
theorem dX8_load_52 : decode cX8_load 52 = .ok (.bipush 6, 2) := by decide +kernel
theorem dX8_load_54 : decode cX8_load 54 = .ok (.invokevirtual 122, 3) := by decide +kernel
theorem dX8_load_57 : decode cX8_load 57 = .ok (.putfield 66, 3) := by decide +kernel
theorem dX8_load_60 : decode cX8_load 60 = .ok (.aload_n 0, 1) := by decide +kernel
theorem dX8_load_61 : decode cX8_load 61 = .ok (.aload_n 2, 1) := by decide +kernel
theorem dX8_load_62 : decode cX8_load 62 = .ok (.iload_n 1, 1) := by decide +kernel
theorem dX8_load_63 : decode cX8_load 63 = .ok (.bipush 15, 2) := by decide +kernel
theorem dX8_load_65 : decode cX8_load 65 = .ok (.iadd, 1) := by decide +kernel
theorem dX8_load_66 : decode cX8_load 66 = .ok (.invokevirtual 132, 3) := by decide +kernel
theorem dX8_load_69 : decode cX8_load 69 = .ok (.putfield 73, 3) := by decide +kernel
theorem dX8_load_72 : decode cX8_load 72 = .ok (.aload_n 0, 1) := by decide +kernel
theorem dX8_load_73 : decode cX8_load 73 = .ok (.aload_n 2, 1) := by decide +kernel
theorem dX8_load_74 : decode cX8_load 74 = .ok (.iload_n 1, 1) := by decide +kernel
theorem dX8_load_75 : decode cX8_load 75 = .ok (.bipush 16, 2) := by decide +kernel
theorem dX8_load_77 : decode cX8_load 77 = .ok (.iadd, 1) := by decide +kernel
theorem dX8_load_78 : decode cX8_load 78 = .ok (.iconst 2, 1) := by decide +kernel
theorem dX8_load_79 : decode cX8_load 79 = .ok (.invokevirtual 122, 3) := by decide +kernel
theorem dX8_load_82 : decode cX8_load 82 = .ok (.l2i, 1) := by decide +kernel
theorem dX8_load_83 : decode cX8_load 83 = .ok (.putfield 76, 3) := by decide +kernel
theorem dX8_load_86 : decode cX8_load 86 = .ok (.aload_n 0, 1) := by decide +kernel
theorem dX8_load_87 : decode cX8_load 87 = .ok (.aload_n 2, 1) := by decide +kernel
theorem dX8_load_88 : decode cX8_load 88 = .ok (.iload_n 1, 1) := by decide +kernel
theorem dX8_load_89 : decode cX8_load 89 = .ok (.bipush 18, 2) := by decide +kernel
theorem dX8_load_91 : decode cX8_load 91 = .ok (.iadd, 1) := by decide +kernel
theorem dX8_load_92 : decode cX8_load 92 = .ok (.iconst 2, 1) := by decide +kernel
theorem dX8_load_93 : decode cX8_load 93 = .ok (.invokevirtual 122, 3) := by decide +kernel
theorem dX8_load_96 : decode cX8_load 96 = .ok (.l2i, 1) := by decide +kernel
theorem dX8_load_97 : decode cX8_load 97 = .ok (.putfield 79, 3) := by decide +kernel
theorem dX8_load_100 : decode cX8_load 100 = .ok (.aload_n 0, 1) := by decide +kernel
theorem dX8_load_101 : decode cX8_load 101 = .ok (.aload_n 2, 1) := by decide +kernel
theorem dX8_load_102 : decode cX8_load 102 = .ok (.iload_n 1, 1) := by decide +kernel
theorem dX8_load_103 : decode cX8_load 103 = .ok (.bipush 20, 2) := by decide +kernel
theorem dX8_load_105 : decode cX8_load 105 = .ok (.iadd, 1) := by decide +kernel
theorem dX8_load_106 : decode cX8_load 106 = .ok (.bipush 6, 2) := by decide +kernel
theorem dX8_load_108 : decode cX8_load 108 = .ok (.invokevirtual 122, 3) := by decide +kernel
theorem dX8_load_111 : decode cX8_load 111 = .ok (.putfield 82, 3) := by decide +kernel
theorem dX8_load_114 : decode cX8_load 114 = .ok (.return_, 1) := by decide +kernel
theorem dX8_tell_0 : decode cX8_tell 0 = .ok (.iload_n 1, 1) := by decide +kernel
theorem dX8_tell_1 : decode cX8_tell 1 = .ok (.tableswitch 78 3 9 #[43, 48, 53, 58, 63, 68, 73], 43) := by decide +kernel
theorem dX8_tell_44 : decode cX8_tell 44 = .ok (.aload_n 0, 1) := by decide +kernel
theorem dX8_tell_45 : decode cX8_tell 45 = .ok (.getfield 57, 3) := by decide +kernel
theorem dX8_tell_48 : decode cX8_tell 48 = .ok (.ireturn, 1) := by decide +kernel
theorem dX8_tell_49 : decode cX8_tell 49 = .ok (.aload_n 0, 1) := by decide +kernel
theorem dX8_tell_50 : decode cX8_tell 50 = .ok (.getfield 60, 3) := by decide +kernel
theorem dX8_tell_53 : decode cX8_tell 53 = .ok (.ireturn, 1) := by decide +kernel
theorem dX8_tell_54 : decode cX8_tell 54 = .ok (.aload_n 0, 1) := by decide +kernel
theorem dX8_tell_55 : decode cX8_tell 55 = .ok (.getfield 63, 3) := by decide +kernel
theorem dX8_tell_58 : decode cX8_tell 58 = .ok (.ireturn, 1) := by decide +kernel
theorem dX8_tell_59 : decode cX8_tell 59 = .ok (.aload_n 0, 1) := by decide +kernel
theorem dX8_tell_60 : decode cX8_tell 60 = .ok (.getfield 73, 3) := by decide +kernel
theorem dX8_tell_63 : decode cX8_tell 63 = .ok (.ireturn, 1) := by decide +kernel
theorem dX8_tell_64 : decode cX8_tell 64 = .ok (.aload_n 0, 1) := by decide +kernel
theorem dX8_tell_65 : decode cX8_tell 65 = .ok (.getfield 76, 3) := by decide +kernel
theorem dX8_tell_68 : decode cX8_tell 68 = .ok (.ireturn, 1) := by decide +kernel
theorem dX8_tell_69 : decode cX8_tell 69 = .ok (.aload_n 0, 1) := by decide +kernel
theorem dX8_tell_70 : decode cX8_tell 70 = .ok (.getfield 79, 3) := by decide +kernel
theorem dX8_tell_73 : decode cX8_tell 73 = .ok (.ireturn, 1) := by decide +kernel
theorem dX8_tell_74 : decode cX8_tell 74 = .ok (.aload_n 0, 1) := by decide +kernel
theorem dX8_tell_75 : decode cX8_tell 75 = .ok (.getfield 24, 3) := by decide +kernel
theorem dX8_tell_78 : decode cX8_tell 78 = .ok (.ireturn, 1) := by decide +kernel
theorem dX8_tell_79 : decode cX8_tell 79 = .ok (.iconst (-1), 1) := by decide +kernel
theorem dX8_tell_80 : decode cX8_tell 80 = .ok (.ireturn, 1) := by decide +kernel
theorem dX9_init_0 : decode cX9_init 0 = .ok (.aload_n 0, 1) := by decide +kernel
theorem dX9_init_1 : decode cX9_init 1 = .ok (.invokespecial 3, 3) := by decide +kernel
theorem dX9_init_4 : decode cX9_init 4 = .ok (.aload_n 0, 1) := by decide +kernel
theorem dX9_init_5 : decode cX9_init 5 = .ok (.new 9, 3) := by decide +kernel
theorem dX9_init_8 : decode cX9_init 8 = .ok (.dup, 1) := by decide +kernel
theorem dX9_init_9 : decode cX9_init 9 = .ok (.invokespecial 11, 3) := by decide +kernel
theorem dX9_init_12 : decode cX9_init 12 = .ok (.putfield 12, 3) := by decide +kernel
theorem dX9_init_15 : decode cX9_init 15 = .ok (.aload_n 0, 1) := by decide +kernel
theorem dX9_init_16 : decode cX9_init 16 = .ok (.new 18, 3) := by decide +kernel
theorem dX9_init_19 : decode cX9_init 19 = .ok (.dup, 1) := by decide +kernel
theorem dX9_init_20 : decode cX9_init 20 = .ok (.iconst 0, 1) := by decide +kernel
theorem dX9_init_21 : decode cX9_init 21 = .ok (.invokespecial 20, 3) := by decide +kernel
theorem dX9_init_24 : decode cX9_init 24 = .ok (.putfield 23, 3) := by decide +kernel
theorem dX9_init_27 : decode cX9_init 27 = .ok (.aload_n 0, 1) := by decide +kernel
theorem dX9_init_28 : decode cX9_init 28 = .ok (.iconst 0, 1) := by decide +kernel
theorem dX9_init_29 : decode cX9_init 29 = .ok (.putfield 27, 3) := by decide +kernel
theorem dX9_init_32 : decode cX9_init 32 = .ok (.aload_n 0, 1) := by decide +kernel
theorem dX9_init_33 : decode cX9_init 33 = .ok (.iconst 0, 1) := by decide +kernel
theorem dX9_init_34 : decode cX9_init 34 = .ok (.putfield 31, 3) := by decide +kernel
theorem dX9_init_37 : decode cX9_init 37 = .ok (.aload_n 0, 1) := by decide +kernel
theorem dX9_init_38 : decode cX9_init 38 = .ok (.iconst 0, 1) := by decide +kernel
theorem dX9_init_39 : decode cX9_init 39 = .ok (.putfield 34, 3) := by decide +kernel
theorem dX9_init_42 : decode cX9_init 42 = .ok (.aload_n 0, 1) := by decide +kernel
theorem dX9_init_43 : decode cX9_init 43 = .ok (.iconst 0, 1) := by decide +kernel
theorem dX9_init_44 : decode cX9_init 44 = .ok (.putfield 37, 3) := by decide +kernel
theorem dX9_init_47 : decode cX9_init 47 = .ok (.aload_n 0, 1) := by decide +kernel
theorem dX9_init_48 : decode cX9_init 48 = .ok (.aload_n 1, 1) := by decide +kernel
theorem dX9_init_49 : decode cX9_init 49 = .ok (.putfield 40, 3) := by decide +kernel
theorem dX9_init_52 : decode cX9_init 52 = .ok (.aload_n 0, 1) := by decide +kernel
theorem dX9_init_53 : decode cX9_init 53 = .ok (.aload_n 2, 1) := by decide +kernel
theorem dX9_init_54 : decode cX9_init 54 = .ok (.putfield 44, 3) := by decide +kernel
theorem dX9_init_57 : decode cX9_init 57 = .ok (.aload_n 0, 1) := by decide +kernel
theorem dX9_init_58 : decode cX9_init 58 = .ok (.aload_n 3, 1) := by decide +kernel
theorem dX9_init_59 : decode cX9_init 59 = .ok (.putfield 48, 3) := by decide +kernel
theorem dX9_init_62 : decode cX9_init 62 = .ok (.aload_n 0, 1) := by decide +kernel
theorem dX9_init_63 : decode cX9_init 63 = .ok (.aload 4, 2) := by decide +kernel
theorem dX9_init_65 : decode cX9_init 65 = .ok (.putfield 52, 3) := by decide +kernel
theorem dX9_init_68 : decode cX9_init 68 = .ok (.return_, 1) := by decide +kernel
theorem dX9_goesOn_0 : decode cX9_goesOn 0 = .ok (.aload_n 0, 1) := by decide +kernel
theorem dX9_goesOn_1 : decode cX9_goesOn 1 = .ok (.getfield 27, 3) := by decide +kernel
theorem dX9_goesOn_4 : decode cX9_goesOn 4 = .ok (.ifCond .eq 7, 3) := by decide +kernel
theorem dX9_goesOn_7 : decode cX9_goesOn 7 = .ok (.iconst 1, 1) := by decide +kernel
theorem dX9_goesOn_8 : decode cX9_goesOn 8 = .ok (.goto 4, 3) := by decide +kernel
theorem dX9_goesOn_11 : decode cX9_goesOn 11 = .ok (.iconst 0, 1) := by decide +kernel
theorem dX9_goesOn_12 : decode cX9_goesOn 12 = .ok (.ireturn, 1) := by decide +kernel
theorem dX9_start_0 : decode cX9_start 0 = .ok (.aload_n 0, 1) := by decide +kernel
theorem dX9_start_1 : decode cX9_start 1 = .ok (.iconst 0, 1) := by decide +kernel
theorem dX9_start_2 : decode cX9_start 2 = .ok (.putfield 37, 3) := by decide +kernel
theorem dX9_start_5 : decode cX9_start 5 = .ok (.aload_n 0, 1) := by decide +kernel
theorem dX9_start_6 : decode cX9_start 6 = .ok (.iload_n 1, 1) := by decide +kernel
theorem dX9_start_7 : decode cX9_start 7 = .ok (.putfield 34, 3) := by decide +kernel
theorem dX9_start_10 : decode cX9_start 10 = .ok (.aload_n 0, 1) := by decide +kernel
theorem dX9_start_11 : decode cX9_start 11 = .ok (.iconst 1, 1) := by decide +kernel
theorem dX9_start_12 : decode cX9_start 12 = .ok (.putfield 27, 3) := by decide +kernel
theorem dX9_start_15 : decode cX9_start 15 = .ok (.aload_n 0, 1) := by decide +kernel
theorem dX9_start_16 : decode cX9_start 16 = .ok (.getfield 27, 3) := by decide +kernel
theorem dX9_start_19 : decode cX9_start 19 = .ok (.ireturn, 1) := by decide +kernel
theorem dX9_giveUp_0 : decode cX9_giveUp 0 = .ok (.aload_n 0, 1) := by decide +kernel
theorem dX9_giveUp_1 : decode cX9_giveUp 1 = .ok (.iconst 0, 1) := by decide +kernel
theorem dX9_giveUp_2 : decode cX9_giveUp 2 = .ok (.putfield 27, 3) := by decide +kernel
theorem dX9_giveUp_5 : decode cX9_giveUp 5 = .ok (.aload_n 0, 1) := by decide +kernel
theorem dX9_giveUp_6 : decode cX9_giveUp 6 = .ok (.iconst 0, 1) := by decide +kernel
theorem dX9_giveUp_7 : decode cX9_giveUp 7 = .ok (.putfield 31, 3) := by decide +kernel
theorem dX9_giveUp_10 : decode cX9_giveUp 10 = .ok (.aload_n 0, 1) := by decide +kernel
theorem dX9_giveUp_11 : decode cX9_giveUp 11 = .ok (.iconst 0, 1) := by decide +kernel
theorem dX9_giveUp_12 : decode cX9_giveUp 12 = .ok (.putfield 34, 3) := by decide +kernel
theorem dX9_giveUp_15 : decode cX9_giveUp 15 = .ok (.return_, 1) := by decide +kernel
theorem dX9_fail_0 : decode cX9_fail 0 = .ok (.aload_n 0, 1) := by decide +kernel
theorem dX9_fail_1 : decode cX9_fail 1 = .ok (.invokevirtual 56, 3) := by decide +kernel
theorem dX9_fail_4 : decode cX9_fail 4 = .ok (.aload_n 0, 1) := by decide +kernel
theorem dX9_fail_5 : decode cX9_fail 5 = .ok (.iload_n 1, 1) := by decide +kernel
theorem dX9_fail_6 : decode cX9_fail 6 = .ok (.putfield 37, 3) := by decide +kernel
theorem dX9_fail_9 : decode cX9_fail 9 = .ok (.bipush (-10), 2) := by decide +kernel
theorem dX9_fail_11 : decode cX9_fail 11 = .ok (.iload_n 1, 1) := by decide +kernel
theorem dX9_fail_12 : decode cX9_fail 12 = .ok (.isub, 1) := by decide +kernel
theorem dX9_fail_13 : decode cX9_fail 13 = .ok (.ireturn, 1) := by decide +kernel
theorem dX9_trustedPaper_0 : decode cX9_trustedPaper 0 = .ok (.aload_n 0, 1) := by decide +kernel
theorem dX9_trustedPaper_1 : decode cX9_trustedPaper 1 = .ok (.getfield 44, 3) := by decide +kernel
theorem dX9_trustedPaper_4 : decode cX9_trustedPaper 4 = .ok (.iload_n 1, 1) := by decide +kernel
theorem dX9_trustedPaper_5 : decode cX9_trustedPaper 5 = .ok (.aaload, 1) := by decide +kernel
theorem dX9_trustedPaper_6 : decode cX9_trustedPaper 6 = .ok (.invokevirtual 59, 3) := by decide +kernel
theorem dX9_trustedPaper_9 : decode cX9_trustedPaper 9 = .ok (.areturn, 1) := by decide +kernel
theorem dX9_wantedVersion_0 : decode cX9_wantedVersion 0 = .ok (.aload_n 0, 1) := by decide +kernel
theorem dX9_wantedVersion_1 : decode cX9_wantedVersion 1 = .ok (.getfield 27, 3) := by decide +kernel
theorem dX9_wantedVersion_4 : decode cX9_wantedVersion 4 = .ok (.tableswitch 73 1 5 #[36, 73, 47, 56, 65], 36) := by decide +kernel
theorem dX9_wantedVersion_40 : decode cX9_wantedVersion 40 = .ok (.aload_n 0, 1) := by decide +kernel
theorem dX9_wantedVersion_41 : decode cX9_wantedVersion 41 = .ok (.iconst 0, 1) := by decide +kernel
theorem dX9_wantedVersion_42 : decode cX9_wantedVersion 42 = .ok (.invokevirtual 65, 3) := by decide +kernel
theorem dX9_wantedVersion_45 : decode cX9_wantedVersion 45 = .ok (.getfield 69, 3) := by decide +kernel
theorem dX9_wantedVersion_48 : decode cX9_wantedVersion 48 = .ok (.iconst 1, 1) := by decide +kernel
theorem dX9_wantedVersion_49 : decode cX9_wantedVersion 49 = .ok (.iadd, 1) := by decide +kernel
theorem dX9_wantedVersion_50 : decode cX9_wantedVersion 50 = .ok (.ireturn, 1) := by decide +kernel
theorem dX9_wantedVersion_51 : decode cX9_wantedVersion 51 = .ok (.aload_n 0, 1) := by decide +kernel
theorem dX9_wantedVersion_52 : decode cX9_wantedVersion 52 = .ok (.iconst 1, 1) := by decide +kernel
theorem dX9_wantedVersion_53 : decode cX9_wantedVersion 53 = .ok (.invokevirtual 65, 3) := by decide +kernel
theorem dX9_wantedVersion_56 : decode cX9_wantedVersion 56 = .ok (.getfield 72, 3) := by decide +kernel
theorem dX9_wantedVersion_59 : decode cX9_wantedVersion 59 = .ok (.ireturn, 1) := by decide +kernel
theorem dX9_wantedVersion_60 : decode cX9_wantedVersion 60 = .ok (.aload_n 0, 1) := by decide +kernel
theorem dX9_wantedVersion_61 : decode cX9_wantedVersion 61 = .ok (.iconst 2, 1) := by decide +kernel
theorem dX9_wantedVersion_62 : decode cX9_wantedVersion 62 = .ok (.invokevirtual 65, 3) := by decide +kernel
theorem dX9_wantedVersion_65 : decode cX9_wantedVersion 65 = .ok (.getfield 72, 3) := by decide +kernel
theorem dX9_wantedVersion_68 : decode cX9_wantedVersion 68 = .ok (.ireturn, 1) := by decide +kernel
theorem dX9_wantedVersion_69 : decode cX9_wantedVersion 69 = .ok (.aload_n 0, 1) := by decide +kernel
theorem dX9_wantedVersion_70 : decode cX9_wantedVersion 70 = .ok (.getfield 48, 3) := by decide +kernel
theorem dX9_wantedVersion_73 : decode cX9_wantedVersion 73 = .ok (.getfield 75, 3) := by decide +kernel
theorem dX9_wantedVersion_76 : decode cX9_wantedVersion 76 = .ok (.ireturn, 1) := by decide +kernel
theorem dX9_wantedVersion_77 : decode cX9_wantedVersion 77 = .ok (.iconst 0, 1) := by decide +kernel
theorem dX9_wantedVersion_78 : decode cX9_wantedVersion 78 = .ok (.ireturn, 1) := by decide +kernel
theorem dX9_takeRefusal_0 : decode cX9_takeRefusal 0 = .ok (.aload_n 0, 1) := by decide +kernel
theorem dX9_takeRefusal_1 : decode cX9_takeRefusal 1 = .ok (.getfield 27, 3) := by decide +kernel
theorem dX9_takeRefusal_4 : decode cX9_takeRefusal 4 = .ok (.iconst 1, 1) := by decide +kernel
theorem dX9_takeRefusal_5 : decode cX9_takeRefusal 5 = .ok (.if_icmp .eq 10, 3) := by decide +kernel
theorem dX9_takeRefusal_8 : decode cX9_takeRefusal 8 = .ok (.aload_n 0, 1) := by decide +kernel
theorem dX9_takeRefusal_9 : decode cX9_takeRefusal 9 = .ok (.bipush 6, 2) := by decide +kernel
theorem dX9_takeRefusal_11 : decode cX9_takeRefusal 11 = .ok (.invokevirtual 80, 3) := by decide +kernel
theorem dX9_takeRefusal_14 : decode cX9_takeRefusal 14 = .ok (.ireturn, 1) := by decide +kernel
theorem dX9_takeRefusal_15 : decode cX9_takeRefusal 15 = .ok (.aload_n 0, 1) := by decide +kernel
theorem dX9_takeRefusal_16 : decode cX9_takeRefusal 16 = .ok (.iconst 0, 1) := by decide +kernel
theorem dX9_takeRefusal_17 : decode cX9_takeRefusal 17 = .ok (.invokevirtual 65, 3) := by decide +kernel
theorem dX9_takeRefusal_20 : decode cX9_takeRefusal 20 = .ok (.getfield 84, 3) := by decide +kernel
theorem dX9_takeRefusal_23 : decode cX9_takeRefusal 23 = .ok (.aload_n 0, 1) := by decide +kernel
theorem dX9_takeRefusal_24 : decode cX9_takeRefusal 24 = .ok (.getfield 34, 3) := by decide +kernel
theorem dX9_takeRefusal_27 : decode cX9_takeRefusal 27 = .ok (.i2l, 1) := by decide +kernel
theorem dX9_takeRefusal_28 : decode cX9_takeRefusal 28 = .ok (.lcmp, 1) := by decide +kernel
theorem dX9_takeRefusal_29 : decode cX9_takeRefusal 29 = .ok (.ifCond .gt 9, 3) := by decide +kernel
theorem dX9_takeRefusal_32 : decode cX9_takeRefusal 32 = .ok (.aload_n 0, 1) := by decide +kernel
theorem dX9_takeRefusal_33 : decode cX9_takeRefusal 33 = .ok (.iconst 4, 1) := by decide +kernel
theorem dX9_takeRefusal_34 : decode cX9_takeRefusal 34 = .ok (.invokevirtual 80, 3) := by decide +kernel
theorem dX9_takeRefusal_37 : decode cX9_takeRefusal 37 = .ok (.ireturn, 1) := by decide +kernel
theorem dX9_takeRefusal_38 : decode cX9_takeRefusal 38 = .ok (.aload_n 0, 1) := by decide +kernel
theorem dX9_takeRefusal_39 : decode cX9_takeRefusal 39 = .ok (.iconst 2, 1) := by decide +kernel
theorem dX9_takeRefusal_40 : decode cX9_takeRefusal 40 = .ok (.putfield 27, 3) := by decide +kernel
theorem dX9_takeRefusal_43 : decode cX9_takeRefusal 43 = .ok (.aload_n 0, 1) := by decide +kernel
theorem dX9_takeRefusal_44 : decode cX9_takeRefusal 44 = .ok (.getfield 27, 3) := by decide +kernel
theorem dX9_takeRefusal_47 : decode cX9_takeRefusal 47 = .ok (.ireturn, 1) := by decide +kernel
theorem dX9_takeRoot_0 : decode cX9_takeRoot 0 = .ok (.aload_n 0, 1) := by decide +kernel
theorem dX9_takeRoot_1 : decode cX9_takeRoot 1 = .ok (.iconst 0, 1) := by decide +kernel
theorem dX9_takeRoot_2 : decode cX9_takeRoot 2 = .ok (.invokevirtual 65, 3) := by decide +kernel
theorem dX9_takeRoot_5 : decode cX9_takeRoot 5 = .ok (.astore_n 2, 1) := by decide +kernel
theorem dX9_takeRoot_6 : decode cX9_takeRoot 6 = .ok (.aload_n 0, 1) := by decide +kernel
theorem dX9_takeRoot_7 : decode cX9_takeRoot 7 = .ok (.getfield 12, 3) := by decide +kernel
theorem dX9_takeRoot_10 : decode cX9_takeRoot 10 = .ok (.aload_n 1, 1) := by decide +kernel
theorem dX9_takeRoot_11 : decode cX9_takeRoot 11 = .ok (.iconst 0, 1) := by decide +kernel
theorem dX9_takeRoot_12 : decode cX9_takeRoot 12 = .ok (.aload_n 1, 1) := by decide +kernel
theorem dX9_takeRoot_13 : decode cX9_takeRoot 13 = .ok (.invokevirtual 88, 3) := by decide +kernel
theorem dX9_takeRoot_16 : decode cX9_takeRoot 16 = .ok (.invokevirtual 92, 3) := by decide +kernel
theorem dX9_takeRoot_19 : decode cX9_takeRoot 19 = .ok (.ifCond .eq 13, 3) := by decide +kernel
theorem dX9_takeRoot_22 : decode cX9_takeRoot 22 = .ok (.aload_n 0, 1) := by decide +kernel
theorem dX9_takeRoot_23 : decode cX9_takeRoot 23 = .ok (.getfield 12, 3) := by decide +kernel
theorem dX9_takeRoot_26 : decode cX9_takeRoot 26 = .ok (.getfield 96, 3) := by decide +kernel
theorem dX9_takeRoot_29 : decode cX9_takeRoot 29 = .ok (.ifCond .eq 9, 3) := by decide +kernel
theorem dX9_takeRoot_32 : decode cX9_takeRoot 32 = .ok (.aload_n 0, 1) := by decide +kernel
theorem dX9_takeRoot_33 : decode cX9_takeRoot 33 = .ok (.iconst 1, 1) := by decide +kernel
theorem dX9_takeRoot_34 : decode cX9_takeRoot 34 = .ok (.invokevirtual 80, 3) := by decide +kernel
theorem dX9_takeRoot_37 : decode cX9_takeRoot 37 = .ok (.ireturn, 1) := by decide +kernel
theorem dX9_takeRoot_38 : decode cX9_takeRoot 38 = .ok (.aload_n 0, 1) := by decide +kernel
theorem dX9_takeRoot_39 : decode cX9_takeRoot 39 = .ok (.getfield 12, 3) := by decide +kernel
theorem dX9_takeRoot_42 : decode cX9_takeRoot 42 = .ok (.getfield 69, 3) := by decide +kernel
theorem dX9_takeRoot_45 : decode cX9_takeRoot 45 = .ok (.aload_n 2, 1) := by decide +kernel
theorem dX9_takeRoot_46 : decode cX9_takeRoot 46 = .ok (.getfield 69, 3) := by decide +kernel
theorem dX9_takeRoot_49 : decode cX9_takeRoot 49 = .ok (.iconst 1, 1) := by decide +kernel
theorem dX9_takeRoot_50 : decode cX9_takeRoot 50 = .ok (.iadd, 1) := by decide +kernel
theorem dX9_takeRoot_51 : decode cX9_takeRoot 51 = .ok (.if_icmp .eq 9, 3) := by decide +kernel
theorem dX9_takeRoot_54 : decode cX9_takeRoot 54 = .ok (.aload_n 0, 1) := by decide +kernel
theorem dX9_takeRoot_55 : decode cX9_takeRoot 55 = .ok (.iconst 3, 1) := by decide +kernel
theorem dX9_takeRoot_56 : decode cX9_takeRoot 56 = .ok (.invokevirtual 80, 3) := by decide +kernel
theorem dX9_takeRoot_59 : decode cX9_takeRoot 59 = .ok (.ireturn, 1) := by decide +kernel
theorem dX9_takeRoot_60 : decode cX9_takeRoot 60 = .ok (.aload_n 0, 1) := by decide +kernel
theorem dX9_takeRoot_61 : decode cX9_takeRoot 61 = .ok (.aload_n 0, 1) := by decide +kernel
theorem dX9_takeRoot_62 : decode cX9_takeRoot 62 = .ok (.getfield 12, 3) := by decide +kernel
theorem dX9_takeRoot_65 : decode cX9_takeRoot 65 = .ok (.aload_n 2, 1) := by decide +kernel
theorem dX9_takeRoot_66 : decode cX9_takeRoot 66 = .ok (.iconst 0, 1) := by decide +kernel
theorem dX9_takeRoot_67 : decode cX9_takeRoot 67 = .ok (.invokevirtual 99, 3) := by decide +kernel
theorem dX9_takeRoot_70 : decode cX9_takeRoot 70 = .ok (.ifCond .eq 19, 3) := by decide +kernel
theorem dX9_takeRoot_73 : decode cX9_takeRoot 73 = .ok (.aload_n 0, 1) := by decide +kernel
theorem dX9_takeRoot_74 : decode cX9_takeRoot 74 = .ok (.aload_n 0, 1) := by decide +kernel
theorem dX9_takeRoot_75 : decode cX9_takeRoot 75 = .ok (.getfield 12, 3) := by decide +kernel
theorem dX9_takeRoot_78 : decode cX9_takeRoot 78 = .ok (.aload_n 0, 1) := by decide +kernel
theorem dX9_takeRoot_79 : decode cX9_takeRoot 79 = .ok (.getfield 12, 3) := by decide +kernel
theorem dX9_takeRoot_82 : decode cX9_takeRoot 82 = .ok (.iconst 0, 1) := by decide +kernel
theorem dX9_takeRoot_83 : decode cX9_takeRoot 83 = .ok (.invokevirtual 99, 3) := by decide +kernel
theorem dX9_takeRoot_86 : decode cX9_takeRoot 86 = .ok (.ifCond .ne 9, 3) := by decide +kernel
theorem dX9_takeRoot_89 : decode cX9_takeRoot 89 = .ok (.aload_n 0, 1) := by decide +kernel
theorem dX9_takeRoot_90 : decode cX9_takeRoot 90 = .ok (.iconst 2, 1) := by decide +kernel
theorem dX9_takeRoot_91 : decode cX9_takeRoot 91 = .ok (.invokevirtual 80, 3) := by decide +kernel
theorem dX9_takeRoot_94 : decode cX9_takeRoot 94 = .ok (.ireturn, 1) := by decide +kernel
theorem dX9_takeRoot_95 : decode cX9_takeRoot 95 = .ok (.aload_n 0, 1) := by decide +kernel
theorem dX9_takeRoot_96 : decode cX9_takeRoot 96 = .ok (.getfield 12, 3) := by decide +kernel
theorem dX9_takeRoot_99 : decode cX9_takeRoot 99 = .ok (.aload_n 2, 1) := by decide +kernel
theorem dX9_takeRoot_100 : decode cX9_takeRoot 100 = .ok (.iconst 1, 1) := by decide +kernel
theorem dX9_takeRoot_101 : decode cX9_takeRoot 101 = .ok (.invokevirtual 103, 3) := by decide +kernel
theorem dX9_takeRoot_104 : decode cX9_takeRoot 104 = .ok (.ifCond .eq 15, 3) := by decide +kernel
theorem dX9_takeRoot_107 : decode cX9_takeRoot 107 = .ok (.aload_n 0, 1) := by decide +kernel
theorem dX9_takeRoot_108 : decode cX9_takeRoot 108 = .ok (.getfield 12, 3) := by decide +kernel
theorem dX9_takeRoot_111 : decode cX9_takeRoot 111 = .ok (.aload_n 2, 1) := by decide +kernel
theorem dX9_takeRoot_112 : decode cX9_takeRoot 112 = .ok (.iconst 2, 1) := by decide +kernel
theorem dX9_takeRoot_113 : decode cX9_takeRoot 113 = .ok (.invokevirtual 103, 3) := by decide +kernel
theorem dX9_takeRoot_116 : decode cX9_takeRoot 116 = .ok (.ifCond .ne 41, 3) := by decide +kernel
theorem dX9_takeRoot_119 : decode cX9_takeRoot 119 = .ok (.iconst 1, 1) := by decide +kernel
theorem dX9_takeRoot_120 : decode cX9_takeRoot 120 = .ok (.istore_n 3, 1) := by decide +kernel
theorem dX9_takeRoot_121 : decode cX9_takeRoot 121 = .ok (.iload_n 3, 1) := by decide +kernel
theorem dX9_takeRoot_122 : decode cX9_takeRoot 122 = .ok (.iconst 2, 1) := by decide +kernel
theorem dX9_takeRoot_123 : decode cX9_takeRoot 123 = .ok (.if_icmp .gt 34, 3) := by decide +kernel
theorem dX9_takeRoot_126 : decode cX9_takeRoot 126 = .ok (.aload_n 0, 1) := by decide +kernel
theorem dX9_takeRoot_127 : decode cX9_takeRoot 127 = .ok (.getfield 44, 3) := by decide +kernel
theorem dX9_takeRoot_130 : decode cX9_takeRoot 130 = .ok (.iload_n 3, 1) := by decide +kernel
theorem dX9_takeRoot_131 : decode cX9_takeRoot 131 = .ok (.aaload, 1) := by decide +kernel
theorem dX9_takeRoot_132 : decode cX9_takeRoot 132 = .ok (.invokevirtual 107, 3) := by decide +kernel
theorem dX9_takeRoot_135 : decode cX9_takeRoot 135 = .ok (.ifCond .eq 16, 3) := by decide +kernel
theorem dX9_takeRoot_138 : decode cX9_takeRoot 138 = .ok (.aload_n 0, 1) := by decide +kernel
theorem dX9_takeRoot_139 : decode cX9_takeRoot 139 = .ok (.getfield 44, 3) := by decide +kernel
theorem dX9_takeRoot_142 : decode cX9_takeRoot 142 = .ok (.iload_n 3, 1) := by decide +kernel
theorem dX9_takeRoot_143 : decode cX9_takeRoot 143 = .ok (.aaload, 1) := by decide +kernel
theorem dX9_takeRoot_144 : decode cX9_takeRoot 144 = .ok (.aload_n 0, 1) := by decide +kernel
theorem dX9_takeRoot_145 : decode cX9_takeRoot 145 = .ok (.getfield 23, 3) := by decide +kernel
theorem dX9_takeRoot_148 : decode cX9_takeRoot 148 = .ok (.invokevirtual 111, 3) := by decide +kernel
theorem dX9_takeRoot_151 : decode cX9_takeRoot 151 = .ok (.iinc 3 1, 3) := by decide +kernel
theorem dX9_takeRoot_154 : decode cX9_takeRoot 154 = .ok (.goto (-33), 3) := by decide +kernel
theorem dX9_takeRoot_157 : decode cX9_takeRoot 157 = .ok (.aload_n 0, 1) := by decide +kernel
theorem dX9_takeRoot_158 : decode cX9_takeRoot 158 = .ok (.getfield 44, 3) := by decide +kernel
theorem dX9_takeRoot_161 : decode cX9_takeRoot 161 = .ok (.iconst 0, 1) := by decide +kernel
theorem dX9_takeRoot_162 : decode cX9_takeRoot 162 = .ok (.aaload, 1) := by decide +kernel
theorem dX9_takeRoot_163 : decode cX9_takeRoot 163 = .ok (.aload_n 0, 1) := by decide +kernel
theorem dX9_takeRoot_164 : decode cX9_takeRoot 164 = .ok (.getfield 12, 3) := by decide +kernel
theorem dX9_takeRoot_167 : decode cX9_takeRoot 167 = .ok (.getfield 115, 3) := by decide +kernel
theorem dX9_takeRoot_170 : decode cX9_takeRoot 170 = .ok (.invokevirtual 111, 3) := by decide +kernel
theorem dX9_takeRoot_173 : decode cX9_takeRoot 173 = .ok (.aload_n 0, 1) := by decide +kernel
theorem dX9_takeRoot_174 : decode cX9_takeRoot 174 = .ok (.getfield 27, 3) := by decide +kernel
theorem dX9_takeRoot_177 : decode cX9_takeRoot 177 = .ok (.ireturn, 1) := by decide +kernel
theorem dX9_hasRole_0 : decode cX9_hasRole 0 = .ok (.iconst 0, 1) := by decide +kernel
theorem dX9_hasRole_1 : decode cX9_hasRole 1 = .ok (.istore 4, 2) := by decide +kernel
theorem dX9_hasRole_3 : decode cX9_hasRole 3 = .ok (.iconst 0, 1) := by decide +kernel
theorem dX9_hasRole_4 : decode cX9_hasRole 4 = .ok (.istore 5, 2) := by decide +kernel
theorem dX9_hasRole_6 : decode cX9_hasRole 6 = .ok (.iload 5, 2) := by decide +kernel
theorem dX9_hasRole_8 : decode cX9_hasRole 8 = .ok (.bipush 16, 2) := by decide +kernel
theorem dX9_hasRole_10 : decode cX9_hasRole 10 = .ok (.if_icmp .ge 59, 3) := by decide +kernel
theorem dX9_hasRole_13 : decode cX9_hasRole 13 = .ok (.aload_n 1, 1) := by decide +kernel
theorem dX9_hasRole_14 : decode cX9_hasRole 14 = .ok (.getfield 118, 3) := by decide +kernel
theorem dX9_hasRole_17 : decode cX9_hasRole 17 = .ok (.aload_n 2, 1) := by decide +kernel
theorem dX9_hasRole_18 : decode cX9_hasRole 18 = .ok (.getfield 121, 3) := by decide +kernel
theorem dX9_hasRole_21 : decode cX9_hasRole 21 = .ok (.iload_n 3, 1) := by decide +kernel
theorem dX9_hasRole_22 : decode cX9_hasRole 22 = .ok (.iaload, 1) := by decide +kernel
theorem dX9_hasRole_23 : decode cX9_hasRole 23 = .ok (.iand, 1) := by decide +kernel
theorem dX9_hasRole_24 : decode cX9_hasRole 24 = .ok (.iconst 1, 1) := by decide +kernel
theorem dX9_hasRole_25 : decode cX9_hasRole 25 = .ok (.iload 5, 2) := by decide +kernel
theorem dX9_hasRole_27 : decode cX9_hasRole 27 = .ok (.ishl, 1) := by decide +kernel
theorem dX9_hasRole_28 : decode cX9_hasRole 28 = .ok (.iand, 1) := by decide +kernel
theorem dX9_hasRole_29 : decode cX9_hasRole 29 = .ok (.ifCond .eq 7, 3) := by decide +kernel
theorem dX9_hasRole_32 : decode cX9_hasRole 32 = .ok (.iconst 1, 1) := by decide +kernel
theorem dX9_hasRole_33 : decode cX9_hasRole 33 = .ok (.goto 4, 3) := by decide +kernel
theorem dX9_hasRole_36 : decode cX9_hasRole 36 = .ok (.iconst 0, 1) := by decide +kernel
theorem dX9_hasRole_37 : decode cX9_hasRole 37 = .ok (.istore 6, 2) := by decide +kernel
theorem dX9_hasRole_39 : decode cX9_hasRole 39 = .ok (.iload 6, 2) := by decide +kernel
theorem dX9_hasRole_41 : decode cX9_hasRole 41 = .ok (.ifCond .eq 22, 3) := by decide +kernel
theorem dX9_hasRole_44 : decode cX9_hasRole 44 = .ok (.aload_n 0, 1) := by decide +kernel
theorem dX9_hasRole_45 : decode cX9_hasRole 45 = .ok (.getfield 52, 3) := by decide +kernel
theorem dX9_hasRole_48 : decode cX9_hasRole 48 = .ok (.iload 5, 2) := by decide +kernel
theorem dX9_hasRole_50 : decode cX9_hasRole 50 = .ok (.aload_n 1, 1) := by decide +kernel
theorem dX9_hasRole_51 : decode cX9_hasRole 51 = .ok (.getfield 125, 3) := by decide +kernel
theorem dX9_hasRole_54 : decode cX9_hasRole 54 = .ok (.invokevirtual 128, 3) := by decide +kernel
theorem dX9_hasRole_57 : decode cX9_hasRole 57 = .ok (.ifCond .eq 6, 3) := by decide +kernel
theorem dX9_hasRole_60 : decode cX9_hasRole 60 = .ok (.iinc 4 1, 3) := by decide +kernel
theorem dX9_hasRole_63 : decode cX9_hasRole 63 = .ok (.iinc 5 1, 3) := by decide +kernel
theorem dX9_hasRole_66 : decode cX9_hasRole 66 = .ok (.goto (-60), 3) := by decide +kernel
theorem dX9_hasRole_69 : decode cX9_hasRole 69 = .ok (.iload 4, 2) := by decide +kernel
theorem dX9_hasRole_71 : decode cX9_hasRole 71 = .ok (.aload_n 2, 1) := by decide +kernel
theorem dX9_hasRole_72 : decode cX9_hasRole 72 = .ok (.getfield 134, 3) := by decide +kernel
theorem dX9_hasRole_75 : decode cX9_hasRole 75 = .ok (.iload_n 3, 1) := by decide +kernel
theorem dX9_hasRole_76 : decode cX9_hasRole 76 = .ok (.iaload, 1) := by decide +kernel
theorem dX9_hasRole_77 : decode cX9_hasRole 77 = .ok (.if_icmp .lt 7, 3) := by decide +kernel
theorem dX9_hasRole_80 : decode cX9_hasRole 80 = .ok (.iconst 1, 1) := by decide +kernel
theorem dX9_hasRole_81 : decode cX9_hasRole 81 = .ok (.goto 4, 3) := by decide +kernel
theorem dX9_hasRole_84 : decode cX9_hasRole 84 = .ok (.iconst 0, 1) := by decide +kernel
theorem dX9_hasRole_85 : decode cX9_hasRole 85 = .ok (.ireturn, 1) := by decide +kernel
theorem dX9_takePaper_0 : decode cX9_takePaper 0 = .ok (.aload_n 0, 1) := by decide +kernel
theorem dX9_takePaper_1 : decode cX9_takePaper 1 = .ok (.getfield 27, 3) := by decide +kernel
theorem dX9_takePaper_4 : decode cX9_takePaper 4 = .ok (.iconst 1, 1) := by decide +kernel
theorem dX9_takePaper_5 : decode cX9_takePaper 5 = .ok (.isub, 1) := by decide +kernel
theorem dX9_takePaper_6 : decode cX9_takePaper 6 = .ok (.istore_n 2, 1) := by decide +kernel
theorem dX9_takePaper_7 : decode cX9_takePaper 7 = .ok (.aload_n 0, 1) := by decide +kernel
theorem dX9_takePaper_8 : decode cX9_takePaper 8 = .ok (.getfield 12, 3) := by decide +kernel
theorem dX9_takePaper_11 : decode cX9_takePaper 11 = .ok (.aload_n 1, 1) := by decide +kernel
theorem dX9_takePaper_12 : decode cX9_takePaper 12 = .ok (.iconst 0, 1) := by decide +kernel
theorem dX9_takePaper_13 : decode cX9_takePaper 13 = .ok (.aload_n 1, 1) := by decide +kernel
theorem dX9_takePaper_14 : decode cX9_takePaper 14 = .ok (.invokevirtual 88, 3) := by decide +kernel
theorem dX9_takePaper_17 : decode cX9_takePaper 17 = .ok (.invokevirtual 92, 3) := by decide +kernel
theorem dX9_takePaper_20 : decode cX9_takePaper 20 = .ok (.ifCond .eq 14, 3) := by decide +kernel
theorem dX9_takePaper_23 : decode cX9_takePaper 23 = .ok (.aload_n 0, 1) := by decide +kernel
theorem dX9_takePaper_24 : decode cX9_takePaper 24 = .ok (.getfield 12, 3) := by decide +kernel
theorem dX9_takePaper_27 : decode cX9_takePaper 27 = .ok (.getfield 96, 3) := by decide +kernel
theorem dX9_takePaper_30 : decode cX9_takePaper 30 = .ok (.iload_n 2, 1) := by decide +kernel
theorem dX9_takePaper_31 : decode cX9_takePaper 31 = .ok (.if_icmp .eq 9, 3) := by decide +kernel
theorem dX9_takePaper_34 : decode cX9_takePaper 34 = .ok (.aload_n 0, 1) := by decide +kernel
theorem dX9_takePaper_35 : decode cX9_takePaper 35 = .ok (.iconst 1, 1) := by decide +kernel
theorem dX9_takePaper_36 : decode cX9_takePaper 36 = .ok (.invokevirtual 80, 3) := by decide +kernel
theorem dX9_takePaper_39 : decode cX9_takePaper 39 = .ok (.ireturn, 1) := by decide +kernel
theorem dX9_takePaper_40 : decode cX9_takePaper 40 = .ok (.aload_n 0, 1) := by decide +kernel
theorem dX9_takePaper_41 : decode cX9_takePaper 41 = .ok (.getfield 12, 3) := by decide +kernel
theorem dX9_takePaper_44 : decode cX9_takePaper 44 = .ok (.astore_n 3, 1) := by decide +kernel
theorem dX9_takePaper_45 : decode cX9_takePaper 45 = .ok (.iload_n 2, 1) := by decide +kernel
theorem dX9_takePaper_46 : decode cX9_takePaper 46 = .ok (.istore 4, 2) := by decide +kernel
theorem dX9_takePaper_48 : decode cX9_takePaper 48 = .ok (.iload 4, 2) := by decide +kernel
theorem dX9_takePaper_50 : decode cX9_takePaper 50 = .ok (.iconst 3, 1) := by decide +kernel
theorem dX9_takePaper_51 : decode cX9_takePaper 51 = .ok (.if_icmp .gt 110, 3) := by decide +kernel
theorem dX9_takePaper_54 : decode cX9_takePaper 54 = .ok (.aload_n 0, 1) := by decide +kernel
theorem dX9_takePaper_55 : decode cX9_takePaper 55 = .ok (.aload_n 3, 1) := by decide +kernel
theorem dX9_takePaper_56 : decode cX9_takePaper 56 = .ok (.iload 4, 2) := by decide +kernel
theorem dX9_takePaper_58 : decode cX9_takePaper 58 = .ok (.invokevirtual 137, 3) := by decide +kernel
theorem dX9_takePaper_61 : decode cX9_takePaper 61 = .ok (.istore 5, 2) := by decide +kernel
theorem dX9_takePaper_63 : decode cX9_takePaper 63 = .ok (.iload 5, 2) := by decide +kernel
theorem dX9_takePaper_65 : decode cX9_takePaper 65 = .ok (.ifCond .eq 10, 3) := by decide +kernel
theorem dX9_takePaper_68 : decode cX9_takePaper 68 = .ok (.aload_n 0, 1) := by decide +kernel
theorem dX9_takePaper_69 : decode cX9_takePaper 69 = .ok (.iload 5, 2) := by decide +kernel
theorem dX9_takePaper_71 : decode cX9_takePaper 71 = .ok (.invokevirtual 80, 3) := by decide +kernel
theorem dX9_takePaper_74 : decode cX9_takePaper 74 = .ok (.ireturn, 1) := by decide +kernel
theorem dX9_takePaper_75 : decode cX9_takePaper 75 = .ok (.aload_n 0, 1) := by decide +kernel
theorem dX9_takePaper_76 : decode cX9_takePaper 76 = .ok (.getfield 44, 3) := by decide +kernel
theorem dX9_takePaper_79 : decode cX9_takePaper 79 = .ok (.iload 4, 2) := by decide +kernel
theorem dX9_takePaper_81 : decode cX9_takePaper 81 = .ok (.aaload, 1) := by decide +kernel
theorem dX9_takePaper_82 : decode cX9_takePaper 82 = .ok (.aload_n 3, 1) := by decide +kernel
theorem dX9_takePaper_83 : decode cX9_takePaper 83 = .ok (.invokevirtual 141, 3) := by decide +kernel
theorem dX9_takePaper_86 : decode cX9_takePaper 86 = .ok (.ifCond .ne 17, 3) := by decide +kernel
theorem dX9_takePaper_89 : decode cX9_takePaper 89 = .ok (.aload_n 0, 1) := by decide +kernel
theorem dX9_takePaper_90 : decode cX9_takePaper 90 = .ok (.getfield 44, 3) := by decide +kernel
theorem dX9_takePaper_93 : decode cX9_takePaper 93 = .ok (.iload 4, 2) := by decide +kernel
theorem dX9_takePaper_95 : decode cX9_takePaper 95 = .ok (.aaload, 1) := by decide +kernel
theorem dX9_takePaper_96 : decode cX9_takePaper 96 = .ok (.aload_n 3, 1) := by decide +kernel
theorem dX9_takePaper_97 : decode cX9_takePaper 97 = .ok (.getfield 115, 3) := by decide +kernel
theorem dX9_takePaper_100 : decode cX9_takePaper 100 = .ok (.invokevirtual 111, 3) := by decide +kernel
theorem dX9_takePaper_103 : decode cX9_takePaper 103 = .ok (.aload_n 0, 1) := by decide +kernel
theorem dX9_takePaper_104 : decode cX9_takePaper 104 = .ok (.getfield 40, 3) := by decide +kernel
theorem dX9_takePaper_107 : decode cX9_takePaper 107 = .ok (.invokevirtual 145, 3) := by decide +kernel
theorem dX9_takePaper_110 : decode cX9_takePaper 110 = .ok (.ifCond .eq 6, 3) := by decide +kernel
theorem dX9_takePaper_113 : decode cX9_takePaper 113 = .ok (.bipush (-3), 2) := by decide +kernel
theorem dX9_takePaper_115 : decode cX9_takePaper 115 = .ok (.ireturn, 1) := by decide +kernel
theorem dX9_takePaper_116 : decode cX9_takePaper 116 = .ok (.iload 4, 2) := by decide +kernel
theorem dX9_takePaper_118 : decode cX9_takePaper 118 = .ok (.iconst 3, 1) := by decide +kernel
theorem dX9_takePaper_119 : decode cX9_takePaper 119 = .ok (.if_icmp .ge 36, 3) := by decide +kernel
theorem dX9_takePaper_122 : decode cX9_takePaper 122 = .ok (.aload_n 0, 1) := by decide +kernel
theorem dX9_takePaper_123 : decode cX9_takePaper 123 = .ok (.iload 4, 2) := by decide +kernel
theorem dX9_takePaper_125 : decode cX9_takePaper 125 = .ok (.iconst 1, 1) := by decide +kernel
theorem dX9_takePaper_126 : decode cX9_takePaper 126 = .ok (.iadd, 1) := by decide +kernel
theorem dX9_takePaper_127 : decode cX9_takePaper 127 = .ok (.invokevirtual 150, 3) := by decide +kernel
theorem dX9_takePaper_130 : decode cX9_takePaper 130 = .ok (.ifCond .ne 16, 3) := by decide +kernel
theorem dX9_takePaper_133 : decode cX9_takePaper 133 = .ok (.aload_n 0, 1) := by decide +kernel
theorem dX9_takePaper_134 : decode cX9_takePaper 134 = .ok (.iload 4, 2) := by decide +kernel
theorem dX9_takePaper_136 : decode cX9_takePaper 136 = .ok (.iconst 2, 1) := by decide +kernel
theorem dX9_takePaper_137 : decode cX9_takePaper 137 = .ok (.iadd, 1) := by decide +kernel
theorem dX9_takePaper_138 : decode cX9_takePaper 138 = .ok (.putfield 27, 3) := by decide +kernel
theorem dX9_takePaper_141 : decode cX9_takePaper 141 = .ok (.aload_n 0, 1) := by decide +kernel
theorem dX9_takePaper_142 : decode cX9_takePaper 142 = .ok (.getfield 27, 3) := by decide +kernel
theorem dX9_takePaper_145 : decode cX9_takePaper 145 = .ok (.ireturn, 1) := by decide +kernel
theorem dX9_takePaper_146 : decode cX9_takePaper 146 = .ok (.aload_n 0, 1) := by decide +kernel
theorem dX9_takePaper_147 : decode cX9_takePaper 147 = .ok (.iload 4, 2) := by decide +kernel
theorem dX9_takePaper_149 : decode cX9_takePaper 149 = .ok (.iconst 1, 1) := by decide +kernel
theorem dX9_takePaper_150 : decode cX9_takePaper 150 = .ok (.iadd, 1) := by decide +kernel
theorem dX9_takePaper_151 : decode cX9_takePaper 151 = .ok (.invokevirtual 65, 3) := by decide +kernel
theorem dX9_takePaper_154 : decode cX9_takePaper 154 = .ok (.astore_n 3, 1) := by decide +kernel
theorem dX9_takePaper_155 : decode cX9_takePaper 155 = .ok (.iinc 4 1, 3) := by decide +kernel
theorem dX9_takePaper_158 : decode cX9_takePaper 158 = .ok (.goto (-110), 3) := by decide +kernel
theorem dX9_takePaper_161 : decode cX9_takePaper 161 = .ok (.aload_n 0, 1) := by decide +kernel
theorem dX9_takePaper_162 : decode cX9_takePaper 162 = .ok (.invokevirtual 154, 3) := by decide +kernel
theorem dX9_takePaper_165 : decode cX9_takePaper 165 = .ok (.ireturn, 1) := by decide +kernel
theorem dX9_judge_0 : decode cX9_judge 0 = .ok (.iload_n 2, 1) := by decide +kernel
theorem dX9_judge_1 : decode cX9_judge 1 = .ok (.iconst 1, 1) := by decide +kernel
theorem dX9_judge_2 : decode cX9_judge 2 = .ok (.if_icmp .eq 7, 3) := by decide +kernel
theorem dX9_judge_5 : decode cX9_judge 5 = .ok (.iconst 1, 1) := by decide +kernel
theorem dX9_judge_6 : decode cX9_judge 6 = .ok (.goto 4, 3) := by decide +kernel
theorem dX9_judge_9 : decode cX9_judge 9 = .ok (.iconst 0, 1) := by decide +kernel
theorem dX9_judge_10 : decode cX9_judge 10 = .ok (.istore_n 3, 1) := by decide +kernel
theorem dX9_judge_11 : decode cX9_judge 11 = .ok (.aload_n 0, 1) := by decide +kernel
theorem dX9_judge_12 : decode cX9_judge 12 = .ok (.iload_n 3, 1) := by decide +kernel
theorem dX9_judge_13 : decode cX9_judge 13 = .ok (.ifCond .eq 9, 3) := by decide +kernel
theorem dX9_judge_16 : decode cX9_judge 16 = .ok (.iload_n 2, 1) := by decide +kernel
theorem dX9_judge_17 : decode cX9_judge 17 = .ok (.iconst 1, 1) := by decide +kernel
theorem dX9_judge_18 : decode cX9_judge 18 = .ok (.isub, 1) := by decide +kernel
theorem dX9_judge_19 : decode cX9_judge 19 = .ok (.goto 4, 3) := by decide +kernel
theorem dX9_judge_22 : decode cX9_judge 22 = .ok (.iload_n 2, 1) := by decide +kernel
theorem dX9_judge_23 : decode cX9_judge 23 = .ok (.invokevirtual 65, 3) := by decide +kernel
theorem dX9_judge_26 : decode cX9_judge 26 = .ok (.astore 4, 2) := by decide +kernel
theorem dX9_judge_28 : decode cX9_judge 28 = .ok (.aload_n 0, 1) := by decide +kernel
theorem dX9_judge_29 : decode cX9_judge 29 = .ok (.getfield 44, 3) := by decide +kernel
theorem dX9_judge_32 : decode cX9_judge 32 = .ok (.iload_n 2, 1) := by decide +kernel
theorem dX9_judge_33 : decode cX9_judge 33 = .ok (.aaload, 1) := by decide +kernel
theorem dX9_judge_34 : decode cX9_judge 34 = .ok (.invokevirtual 107, 3) := by decide +kernel
theorem dX9_judge_37 : decode cX9_judge 37 = .ok (.istore 5, 2) := by decide +kernel
theorem dX9_judge_39 : decode cX9_judge 39 = .ok (.aload_n 0, 1) := by decide +kernel
theorem dX9_judge_40 : decode cX9_judge 40 = .ok (.iload_n 2, 1) := by decide +kernel
theorem dX9_judge_41 : decode cX9_judge 41 = .ok (.invokevirtual 65, 3) := by decide +kernel
theorem dX9_judge_44 : decode cX9_judge 44 = .ok (.astore 6, 2) := by decide +kernel
theorem dX9_judge_46 : decode cX9_judge 46 = .ok (.iload_n 3, 1) := by decide +kernel
theorem dX9_judge_47 : decode cX9_judge 47 = .ok (.ifCond .eq 18, 3) := by decide +kernel
theorem dX9_judge_50 : decode cX9_judge 50 = .ok (.aload_n 1, 1) := by decide +kernel
theorem dX9_judge_51 : decode cX9_judge 51 = .ok (.getfield 125, 3) := by decide +kernel
theorem dX9_judge_54 : decode cX9_judge 54 = .ok (.aload 4, 2) := by decide +kernel
theorem dX9_judge_56 : decode cX9_judge 56 = .ok (.getfield 157, 3) := by decide +kernel
theorem dX9_judge_59 : decode cX9_judge 59 = .ok (.lcmp, 1) := by decide +kernel
theorem dX9_judge_60 : decode cX9_judge 60 = .ok (.ifCond .eq 5, 3) := by decide +kernel
theorem dX9_judge_63 : decode cX9_judge 63 = .ok (.iconst 5, 1) := by decide +kernel
theorem dX9_judge_64 : decode cX9_judge 64 = .ok (.ireturn, 1) := by decide +kernel
theorem dX9_judge_65 : decode cX9_judge 65 = .ok (.aload_n 0, 1) := by decide +kernel
theorem dX9_judge_66 : decode cX9_judge 66 = .ok (.aload_n 1, 1) := by decide +kernel
theorem dX9_judge_67 : decode cX9_judge 67 = .ok (.aload_n 0, 1) := by decide +kernel
theorem dX9_judge_68 : decode cX9_judge 68 = .ok (.iconst 0, 1) := by decide +kernel
theorem dX9_judge_69 : decode cX9_judge 69 = .ok (.invokevirtual 65, 3) := by decide +kernel
theorem dX9_judge_72 : decode cX9_judge 72 = .ok (.iload_n 2, 1) := by decide +kernel
theorem dX9_judge_73 : decode cX9_judge 73 = .ok (.invokevirtual 99, 3) := by decide +kernel
theorem dX9_judge_76 : decode cX9_judge 76 = .ok (.ifCond .ne 5, 3) := by decide +kernel
theorem dX9_judge_79 : decode cX9_judge 79 = .ok (.iconst 2, 1) := by decide +kernel
theorem dX9_judge_80 : decode cX9_judge 80 = .ok (.ireturn, 1) := by decide +kernel
theorem dX9_judge_81 : decode cX9_judge 81 = .ok (.iload_n 3, 1) := by decide +kernel
theorem dX9_judge_82 : decode cX9_judge 82 = .ok (.ifCond .eq 18, 3) := by decide +kernel
theorem dX9_judge_85 : decode cX9_judge 85 = .ok (.aload_n 1, 1) := by decide +kernel
theorem dX9_judge_86 : decode cX9_judge 86 = .ok (.getfield 69, 3) := by decide +kernel
theorem dX9_judge_89 : decode cX9_judge 89 = .ok (.aload 4, 2) := by decide +kernel
theorem dX9_judge_91 : decode cX9_judge 91 = .ok (.getfield 72, 3) := by decide +kernel
theorem dX9_judge_94 : decode cX9_judge 94 = .ok (.if_icmp .eq 25, 3) := by decide +kernel
theorem dX9_judge_97 : decode cX9_judge 97 = .ok (.goto 20, 3) := by decide +kernel
theorem dX9_judge_100 : decode cX9_judge 100 = .ok (.iload 5, 2) := by decide +kernel
theorem dX9_judge_102 : decode cX9_judge 102 = .ok (.ifCond .eq 17, 3) := by decide +kernel
theorem dX9_judge_105 : decode cX9_judge 105 = .ok (.aload_n 1, 1) := by decide +kernel
theorem dX9_judge_106 : decode cX9_judge 106 = .ok (.getfield 69, 3) := by decide +kernel
theorem dX9_judge_109 : decode cX9_judge 109 = .ok (.aload 6, 2) := by decide +kernel
theorem dX9_judge_111 : decode cX9_judge 111 = .ok (.getfield 69, 3) := by decide +kernel
theorem dX9_judge_114 : decode cX9_judge 114 = .ok (.if_icmp .ge 5, 3) := by decide +kernel
theorem dX9_judge_117 : decode cX9_judge 117 = .ok (.iconst 3, 1) := by decide +kernel
theorem dX9_judge_118 : decode cX9_judge 118 = .ok (.ireturn, 1) := by decide +kernel
theorem dX9_judge_119 : decode cX9_judge 119 = .ok (.iload_n 2, 1) := by decide +kernel
theorem dX9_judge_120 : decode cX9_judge 120 = .ok (.iconst 3, 1) := by decide +kernel
theorem dX9_judge_121 : decode cX9_judge 121 = .ok (.if_icmp .eq 23, 3) := by decide +kernel
theorem dX9_judge_124 : decode cX9_judge 124 = .ok (.iload 5, 2) := by decide +kernel
theorem dX9_judge_126 : decode cX9_judge 126 = .ok (.ifCond .eq 18, 3) := by decide +kernel
theorem dX9_judge_129 : decode cX9_judge 129 = .ok (.aload_n 1, 1) := by decide +kernel
theorem dX9_judge_130 : decode cX9_judge 130 = .ok (.getfield 72, 3) := by decide +kernel
theorem dX9_judge_133 : decode cX9_judge 133 = .ok (.aload 6, 2) := by decide +kernel
theorem dX9_judge_135 : decode cX9_judge 135 = .ok (.getfield 72, 3) := by decide +kernel
theorem dX9_judge_138 : decode cX9_judge 138 = .ok (.if_icmp .ge 6, 3) := by decide +kernel
theorem dX9_judge_141 : decode cX9_judge 141 = .ok (.bipush 10, 2) := by decide +kernel
theorem dX9_judge_143 : decode cX9_judge 143 = .ok (.ireturn, 1) := by decide +kernel
theorem dX9_judge_144 : decode cX9_judge 144 = .ok (.aload_n 1, 1) := by decide +kernel
theorem dX9_judge_145 : decode cX9_judge 145 = .ok (.getfield 84, 3) := by decide +kernel
theorem dX9_judge_148 : decode cX9_judge 148 = .ok (.aload_n 0, 1) := by decide +kernel
theorem dX9_judge_149 : decode cX9_judge 149 = .ok (.getfield 34, 3) := by decide +kernel
theorem dX9_judge_152 : decode cX9_judge 152 = .ok (.i2l, 1) := by decide +kernel
theorem dX9_judge_153 : decode cX9_judge 153 = .ok (.lcmp, 1) := by decide +kernel
theorem dX9_judge_154 : decode cX9_judge 154 = .ok (.ifCond .gt 7, 3) := by decide +kernel
theorem dX9_judge_157 : decode cX9_judge 157 = .ok (.iconst 4, 1) := by decide +kernel
theorem dX9_judge_158 : decode cX9_judge 158 = .ok (.goto 4, 3) := by decide +kernel
theorem dX9_judge_161 : decode cX9_judge 161 = .ok (.iconst 0, 1) := by decide +kernel
theorem dX9_judge_162 : decode cX9_judge 162 = .ok (.ireturn, 1) := by decide +kernel
theorem dX9_isTrustedAsTold_0 : decode cX9_isTrustedAsTold 0 = .ok (.aload_n 0, 1) := by decide +kernel
theorem dX9_isTrustedAsTold_1 : decode cX9_isTrustedAsTold 1 = .ok (.getfield 44, 3) := by decide +kernel
theorem dX9_isTrustedAsTold_4 : decode cX9_isTrustedAsTold 4 = .ok (.iload_n 1, 1) := by decide +kernel
theorem dX9_isTrustedAsTold_5 : decode cX9_isTrustedAsTold 5 = .ok (.aaload, 1) := by decide +kernel
theorem dX9_isTrustedAsTold_6 : decode cX9_isTrustedAsTold 6 = .ok (.invokevirtual 107, 3) := by decide +kernel
theorem dX9_isTrustedAsTold_9 : decode cX9_isTrustedAsTold 9 = .ok (.ifCond .eq 29, 3) := by decide +kernel
theorem dX9_isTrustedAsTold_12 : decode cX9_isTrustedAsTold 12 = .ok (.aload_n 0, 1) := by decide +kernel
theorem dX9_isTrustedAsTold_13 : decode cX9_isTrustedAsTold 13 = .ok (.iload_n 1, 1) := by decide +kernel
theorem dX9_isTrustedAsTold_14 : decode cX9_isTrustedAsTold 14 = .ok (.invokevirtual 65, 3) := by decide +kernel
theorem dX9_isTrustedAsTold_17 : decode cX9_isTrustedAsTold 17 = .ok (.getfield 125, 3) := by decide +kernel
theorem dX9_isTrustedAsTold_20 : decode cX9_isTrustedAsTold 20 = .ok (.aload_n 0, 1) := by decide +kernel
theorem dX9_isTrustedAsTold_21 : decode cX9_isTrustedAsTold 21 = .ok (.iload_n 1, 1) := by decide +kernel
theorem dX9_isTrustedAsTold_22 : decode cX9_isTrustedAsTold 22 = .ok (.iconst 1, 1) := by decide +kernel
theorem dX9_isTrustedAsTold_23 : decode cX9_isTrustedAsTold 23 = .ok (.isub, 1) := by decide +kernel
theorem dX9_isTrustedAsTold_24 : decode cX9_isTrustedAsTold 24 = .ok (.invokevirtual 65, 3) := by decide +kernel
theorem dX9_isTrustedAsTold_27 : decode cX9_isTrustedAsTold 27 = .ok (.getfield 157, 3) := by decide +kernel
theorem dX9_isTrustedAsTold_30 : decode cX9_isTrustedAsTold 30 = .ok (.lcmp, 1) := by decide +kernel
theorem dX9_isTrustedAsTold_31 : decode cX9_isTrustedAsTold 31 = .ok (.ifCond .ne 7, 3) := by decide +kernel
theorem dX9_isTrustedAsTold_34 : decode cX9_isTrustedAsTold 34 = .ok (.iconst 1, 1) := by decide +kernel
theorem dX9_isTrustedAsTold_35 : decode cX9_isTrustedAsTold 35 = .ok (.goto 4, 3) := by decide +kernel
theorem dX9_isTrustedAsTold_38 : decode cX9_isTrustedAsTold 38 = .ok (.iconst 0, 1) := by decide +kernel
theorem dX9_isTrustedAsTold_39 : decode cX9_isTrustedAsTold 39 = .ok (.ireturn, 1) := by decide +kernel
theorem dX9_chooseImage_0 : decode cX9_chooseImage 0 = .ok (.aload_n 0, 1) := by decide +kernel
theorem dX9_chooseImage_1 : decode cX9_chooseImage 1 = .ok (.iconst 3, 1) := by decide +kernel
theorem dX9_chooseImage_2 : decode cX9_chooseImage 2 = .ok (.invokevirtual 65, 3) := by decide +kernel
theorem dX9_chooseImage_5 : decode cX9_chooseImage 5 = .ok (.astore_n 1, 1) := by decide +kernel
theorem dX9_chooseImage_6 : decode cX9_chooseImage 6 = .ok (.aload_n 1, 1) := by decide +kernel
theorem dX9_chooseImage_7 : decode cX9_chooseImage 7 = .ok (.getfield 160, 3) := by decide +kernel
theorem dX9_chooseImage_10 : decode cX9_chooseImage 10 = .ok (.iconst 1, 1) := by decide +kernel
theorem dX9_chooseImage_11 : decode cX9_chooseImage 11 = .ok (.isub, 1) := by decide +kernel
theorem dX9_chooseImage_12 : decode cX9_chooseImage 12 = .ok (.istore_n 2, 1) := by decide +kernel
theorem dX9_chooseImage_13 : decode cX9_chooseImage 13 = .ok (.iload_n 2, 1) := by decide +kernel
theorem dX9_chooseImage_14 : decode cX9_chooseImage 14 = .ok (.ifCond .lt 24, 3) := by decide +kernel
theorem dX9_chooseImage_17 : decode cX9_chooseImage 17 = .ok (.iload_n 2, 1) := by decide +kernel
theorem dX9_chooseImage_18 : decode cX9_chooseImage 18 = .ok (.iconst 4, 1) := by decide +kernel
theorem dX9_chooseImage_19 : decode cX9_chooseImage 19 = .ok (.if_icmp .ge 19, 3) := by decide +kernel
theorem dX9_chooseImage_22 : decode cX9_chooseImage 22 = .ok (.aload_n 1, 1) := by decide +kernel
theorem dX9_chooseImage_23 : decode cX9_chooseImage 23 = .ok (.getfield 163, 3) := by decide +kernel
theorem dX9_chooseImage_26 : decode cX9_chooseImage 26 = .ok (.iload_n 2, 1) := by decide +kernel
theorem dX9_chooseImage_27 : decode cX9_chooseImage 27 = .ok (.iaload, 1) := by decide +kernel
theorem dX9_chooseImage_28 : decode cX9_chooseImage 28 = .ok (.aload_n 0, 1) := by decide +kernel
theorem dX9_chooseImage_29 : decode cX9_chooseImage 29 = .ok (.getfield 48, 3) := by decide +kernel
theorem dX9_chooseImage_32 : decode cX9_chooseImage 32 = .ok (.getfield 166, 3) := by decide +kernel
theorem dX9_chooseImage_35 : decode cX9_chooseImage 35 = .ok (.if_icmp .gt 10, 3) := by decide +kernel
theorem dX9_chooseImage_38 : decode cX9_chooseImage 38 = .ok (.aload_n 0, 1) := by decide +kernel
theorem dX9_chooseImage_39 : decode cX9_chooseImage 39 = .ok (.bipush 9, 2) := by decide +kernel
theorem dX9_chooseImage_41 : decode cX9_chooseImage 41 = .ok (.invokevirtual 80, 3) := by decide +kernel
theorem dX9_chooseImage_44 : decode cX9_chooseImage 44 = .ok (.ireturn, 1) := by decide +kernel
theorem dX9_chooseImage_45 : decode cX9_chooseImage 45 = .ok (.aload_n 1, 1) := by decide +kernel
theorem dX9_chooseImage_46 : decode cX9_chooseImage 46 = .ok (.getfield 163, 3) := by decide +kernel
theorem dX9_chooseImage_49 : decode cX9_chooseImage 49 = .ok (.iload_n 2, 1) := by decide +kernel
theorem dX9_chooseImage_50 : decode cX9_chooseImage 50 = .ok (.iaload, 1) := by decide +kernel
theorem dX9_chooseImage_51 : decode cX9_chooseImage 51 = .ok (.istore_n 3, 1) := by decide +kernel
theorem dX9_chooseImage_52 : decode cX9_chooseImage 52 = .ok (.aload_n 1, 1) := by decide +kernel
theorem dX9_chooseImage_53 : decode cX9_chooseImage 53 = .ok (.getfield 167, 3) := by decide +kernel
theorem dX9_chooseImage_56 : decode cX9_chooseImage 56 = .ok (.iload_n 2, 1) := by decide +kernel
theorem dX9_chooseImage_57 : decode cX9_chooseImage 57 = .ok (.iaload, 1) := by decide +kernel
theorem dX9_chooseImage_58 : decode cX9_chooseImage 58 = .ok (.istore 4, 2) := by decide +kernel
theorem dX9_chooseImage_60 : decode cX9_chooseImage 60 = .ok (.aload_n 1, 1) := by decide +kernel
theorem dX9_chooseImage_61 : decode cX9_chooseImage 61 = .ok (.getfield 170, 3) := by decide +kernel
theorem dX9_chooseImage_64 : decode cX9_chooseImage 64 = .ok (.iload_n 2, 1) := by decide +kernel
theorem dX9_chooseImage_65 : decode cX9_chooseImage 65 = .ok (.laload, 1) := by decide +kernel
theorem dX9_chooseImage_66 : decode cX9_chooseImage 66 = .ok (.invokestatic 174, 3) := by decide +kernel
theorem dX9_chooseImage_69 : decode cX9_chooseImage 69 = .ok (.lstore 5, 2) := by decide +kernel
theorem dX9_chooseImage_71 : decode cX9_chooseImage 71 = .ok (.aload_n 0, 1) := by decide +kernel
theorem dX9_chooseImage_72 : decode cX9_chooseImage 72 = .ok (.getfield 48, 3) := by decide +kernel
theorem dX9_chooseImage_75 : decode cX9_chooseImage 75 = .ok (.iload_n 3, 1) := by decide +kernel
theorem dX9_chooseImage_76 : decode cX9_chooseImage 76 = .ok (.iload 4, 2) := by decide +kernel
theorem dX9_chooseImage_78 : decode cX9_chooseImage 78 = .ok (.lload 5, 2) := by decide +kernel
theorem dX9_chooseImage_80 : decode cX9_chooseImage 80 = .ok (.invokevirtual 178, 3) := by decide +kernel
theorem dX9_chooseImage_83 : decode cX9_chooseImage 83 = .ok (.istore 7, 2) := by decide +kernel
theorem dX9_chooseImage_85 : decode cX9_chooseImage 85 = .ok (.iload 7, 2) := by decide +kernel
theorem dX9_chooseImage_87 : decode cX9_chooseImage 87 = .ok (.ifCond .eq 20, 3) := by decide +kernel
theorem dX9_chooseImage_90 : decode cX9_chooseImage 90 = .ok (.aload_n 0, 1) := by decide +kernel
theorem dX9_chooseImage_91 : decode cX9_chooseImage 91 = .ok (.getfield 48, 3) := by decide +kernel
theorem dX9_chooseImage_94 : decode cX9_chooseImage 94 = .ok (.getfield 182, 3) := by decide +kernel
theorem dX9_chooseImage_97 : decode cX9_chooseImage 97 = .ok (.iconst 2, 1) := by decide +kernel
theorem dX9_chooseImage_98 : decode cX9_chooseImage 98 = .ok (.if_icmp .ne 9, 3) := by decide +kernel
theorem dX9_chooseImage_101 : decode cX9_chooseImage 101 = .ok (.aload_n 0, 1) := by decide +kernel
theorem dX9_chooseImage_102 : decode cX9_chooseImage 102 = .ok (.invokevirtual 56, 3) := by decide +kernel
theorem dX9_chooseImage_105 : decode cX9_chooseImage 105 = .ok (.iconst 0, 1) := by decide +kernel
theorem dX9_chooseImage_106 : decode cX9_chooseImage 106 = .ok (.ireturn, 1) := by decide +kernel
theorem dX9_chooseImage_107 : decode cX9_chooseImage 107 = .ok (.iload 7, 2) := by decide +kernel
theorem dX9_chooseImage_109 : decode cX9_chooseImage 109 = .ok (.ifCond .eq 37, 3) := by decide +kernel
theorem dX9_chooseImage_112 : decode cX9_chooseImage 112 = .ok (.aload_n 0, 1) := by decide +kernel
theorem dX9_chooseImage_113 : decode cX9_chooseImage 113 = .ok (.getfield 48, 3) := by decide +kernel
theorem dX9_chooseImage_116 : decode cX9_chooseImage 116 = .ok (.getfield 182, 3) := by decide +kernel
theorem dX9_chooseImage_119 : decode cX9_chooseImage 119 = .ok (.iconst 1, 1) := by decide +kernel
theorem dX9_chooseImage_120 : decode cX9_chooseImage 120 = .ok (.if_icmp .ne 26, 3) := by decide +kernel
theorem dX9_chooseImage_123 : decode cX9_chooseImage 123 = .ok (.aload_n 0, 1) := by decide +kernel
theorem dX9_chooseImage_124 : decode cX9_chooseImage 124 = .ok (.aload_n 0, 1) := by decide +kernel
theorem dX9_chooseImage_125 : decode cX9_chooseImage 125 = .ok (.getfield 40, 3) := by decide +kernel
theorem dX9_chooseImage_128 : decode cX9_chooseImage 128 = .ok (.aload_n 0, 1) := by decide +kernel
theorem dX9_chooseImage_129 : decode cX9_chooseImage 129 = .ok (.getfield 48, 3) := by decide +kernel
theorem dX9_chooseImage_132 : decode cX9_chooseImage 132 = .ok (.invokevirtual 185, 3) := by decide +kernel
theorem dX9_chooseImage_135 : decode cX9_chooseImage 135 = .ok (.iload 4, 2) := by decide +kernel
theorem dX9_chooseImage_137 : decode cX9_chooseImage 137 = .ok (.invokevirtual 188, 3) := by decide +kernel
theorem dX9_chooseImage_140 : decode cX9_chooseImage 140 = .ok (.putfield 31, 3) := by decide +kernel
theorem dX9_chooseImage_143 : decode cX9_chooseImage 143 = .ok (.goto 42, 3) := by decide +kernel
theorem dX9_chooseImage_146 : decode cX9_chooseImage 146 = .ok (.aload_n 0, 1) := by decide +kernel
theorem dX9_chooseImage_147 : decode cX9_chooseImage 147 = .ok (.getfield 40, 3) := by decide +kernel
theorem dX9_chooseImage_150 : decode cX9_chooseImage 150 = .ok (.aload_n 0, 1) := by decide +kernel
theorem dX9_chooseImage_151 : decode cX9_chooseImage 151 = .ok (.getfield 48, 3) := by decide +kernel
theorem dX9_chooseImage_154 : decode cX9_chooseImage 154 = .ok (.invokevirtual 185, 3) := by decide +kernel
theorem dX9_chooseImage_157 : decode cX9_chooseImage 157 = .ok (.invokevirtual 192, 3) := by decide +kernel
theorem dX9_chooseImage_160 : decode cX9_chooseImage 160 = .ok (.aload_n 0, 1) := by decide +kernel
theorem dX9_chooseImage_161 : decode cX9_chooseImage 161 = .ok (.getfield 48, 3) := by decide +kernel
theorem dX9_chooseImage_164 : decode cX9_chooseImage 164 = .ok (.iconst 1, 1) := by decide +kernel
theorem dX9_chooseImage_165 : decode cX9_chooseImage 165 = .ok (.iload_n 3, 1) := by decide +kernel
theorem dX9_chooseImage_166 : decode cX9_chooseImage 166 = .ok (.iload 4, 2) := by decide +kernel
theorem dX9_chooseImage_168 : decode cX9_chooseImage 168 = .ok (.lload 5, 2) := by decide +kernel
theorem dX9_chooseImage_170 : decode cX9_chooseImage 170 = .ok (.invokevirtual 195, 3) := by decide +kernel
theorem dX9_chooseImage_173 : decode cX9_chooseImage 173 = .ok (.aload_n 0, 1) := by decide +kernel
theorem dX9_chooseImage_174 : decode cX9_chooseImage 174 = .ok (.getfield 48, 3) := by decide +kernel
theorem dX9_chooseImage_177 : decode cX9_chooseImage 177 = .ok (.invokevirtual 199, 3) := by decide +kernel
theorem dX9_chooseImage_180 : decode cX9_chooseImage 180 = .ok (.aload_n 0, 1) := by decide +kernel
theorem dX9_chooseImage_181 : decode cX9_chooseImage 181 = .ok (.iconst 0, 1) := by decide +kernel
theorem dX9_chooseImage_182 : decode cX9_chooseImage 182 = .ok (.putfield 31, 3) := by decide +kernel
theorem dX9_chooseImage_185 : decode cX9_chooseImage 185 = .ok (.aload_n 0, 1) := by decide +kernel
theorem dX9_chooseImage_186 : decode cX9_chooseImage 186 = .ok (.iconst 5, 1) := by decide +kernel
theorem dX9_chooseImage_187 : decode cX9_chooseImage 187 = .ok (.putfield 27, 3) := by decide +kernel
theorem dX9_chooseImage_190 : decode cX9_chooseImage 190 = .ok (.aload_n 0, 1) := by decide +kernel
theorem dX9_chooseImage_191 : decode cX9_chooseImage 191 = .ok (.getfield 27, 3) := by decide +kernel
theorem dX9_chooseImage_194 : decode cX9_chooseImage 194 = .ok (.ireturn, 1) := by decide +kernel
theorem dX9_takePiece_0 : decode cX9_takePiece 0 = .ok (.aload_n 0, 1) := by decide +kernel
theorem dX9_takePiece_1 : decode cX9_takePiece 1 = .ok (.getfield 31, 3) := by decide +kernel
theorem dX9_takePiece_4 : decode cX9_takePiece 4 = .ok (.bipush 64, 2) := by decide +kernel
theorem dX9_takePiece_6 : decode cX9_takePiece 6 = .ok (.imul, 1) := by decide +kernel
theorem dX9_takePiece_7 : decode cX9_takePiece 7 = .ok (.istore_n 2, 1) := by decide +kernel
theorem dX9_takePiece_8 : decode cX9_takePiece 8 = .ok (.aload_n 0, 1) := by decide +kernel
theorem dX9_takePiece_9 : decode cX9_takePiece 9 = .ok (.getfield 48, 3) := by decide +kernel
theorem dX9_takePiece_12 : decode cX9_takePiece 12 = .ok (.getfield 202, 3) := by decide +kernel
theorem dX9_takePiece_15 : decode cX9_takePiece 15 = .ok (.iload_n 2, 1) := by decide +kernel
theorem dX9_takePiece_16 : decode cX9_takePiece 16 = .ok (.isub, 1) := by decide +kernel
theorem dX9_takePiece_17 : decode cX9_takePiece 17 = .ok (.istore_n 3, 1) := by decide +kernel
theorem dX9_takePiece_18 : decode cX9_takePiece 18 = .ok (.aload_n 1, 1) := by decide +kernel
theorem dX9_takePiece_19 : decode cX9_takePiece 19 = .ok (.invokevirtual 88, 3) := by decide +kernel
theorem dX9_takePiece_22 : decode cX9_takePiece 22 = .ok (.iload_n 3, 1) := by decide +kernel
theorem dX9_takePiece_23 : decode cX9_takePiece 23 = .ok (.bipush 64, 2) := by decide +kernel
theorem dX9_takePiece_25 : decode cX9_takePiece 25 = .ok (.invokestatic 205, 3) := by decide +kernel
theorem dX9_takePiece_28 : decode cX9_takePiece 28 = .ok (.if_icmp .eq 10, 3) := by decide +kernel
theorem dX9_takePiece_31 : decode cX9_takePiece 31 = .ok (.aload_n 0, 1) := by decide +kernel
theorem dX9_takePiece_32 : decode cX9_takePiece 32 = .ok (.bipush 7, 2) := by decide +kernel
theorem dX9_takePiece_34 : decode cX9_takePiece 34 = .ok (.invokevirtual 80, 3) := by decide +kernel
theorem dX9_takePiece_37 : decode cX9_takePiece 37 = .ok (.ireturn, 1) := by decide +kernel
theorem dX9_takePiece_38 : decode cX9_takePiece 38 = .ok (.aload_n 0, 1) := by decide +kernel
theorem dX9_takePiece_39 : decode cX9_takePiece 39 = .ok (.getfield 40, 3) := by decide +kernel
theorem dX9_takePiece_42 : decode cX9_takePiece 42 = .ok (.aload_n 0, 1) := by decide +kernel
theorem dX9_takePiece_43 : decode cX9_takePiece 43 = .ok (.getfield 48, 3) := by decide +kernel
theorem dX9_takePiece_46 : decode cX9_takePiece 46 = .ok (.invokevirtual 185, 3) := by decide +kernel
theorem dX9_takePiece_49 : decode cX9_takePiece 49 = .ok (.invokestatic 210, 3) := by decide +kernel
theorem dX9_takePiece_52 : decode cX9_takePiece 52 = .ok (.iload_n 2, 1) := by decide +kernel
theorem dX9_takePiece_53 : decode cX9_takePiece 53 = .ok (.iadd, 1) := by decide +kernel
theorem dX9_takePiece_54 : decode cX9_takePiece 54 = .ok (.bipush 32, 2) := by decide +kernel
theorem dX9_takePiece_56 : decode cX9_takePiece 56 = .ok (.idiv, 1) := by decide +kernel
theorem dX9_takePiece_57 : decode cX9_takePiece 57 = .ok (.aload_n 1, 1) := by decide +kernel
theorem dX9_takePiece_58 : decode cX9_takePiece 58 = .ok (.invokevirtual 213, 3) := by decide +kernel
theorem dX9_takePiece_61 : decode cX9_takePiece 61 = .ok (.aload_n 0, 1) := by decide +kernel
theorem dX9_takePiece_62 : decode cX9_takePiece 62 = .ok (.getfield 40, 3) := by decide +kernel
theorem dX9_takePiece_65 : decode cX9_takePiece 65 = .ok (.invokevirtual 145, 3) := by decide +kernel
theorem dX9_takePiece_68 : decode cX9_takePiece 68 = .ok (.ifCond .eq 6, 3) := by decide +kernel
theorem dX9_takePiece_71 : decode cX9_takePiece 71 = .ok (.bipush (-3), 2) := by decide +kernel
theorem dX9_takePiece_73 : decode cX9_takePiece 73 = .ok (.ireturn, 1) := by decide +kernel
theorem dX9_takePiece_74 : decode cX9_takePiece 74 = .ok (.iload_n 3, 1) := by decide +kernel
theorem dX9_takePiece_75 : decode cX9_takePiece 75 = .ok (.bipush 64, 2) := by decide +kernel
theorem dX9_takePiece_77 : decode cX9_takePiece 77 = .ok (.if_icmp .le 18, 3) := by decide +kernel
theorem dX9_takePiece_80 : decode cX9_takePiece 80 = .ok (.aload_n 0, 1) := by decide +kernel
theorem dX9_takePiece_81 : decode cX9_takePiece 81 = .ok (.dup, 1) := by decide +kernel
theorem dX9_takePiece_82 : decode cX9_takePiece 82 = .ok (.getfield 31, 3) := by decide +kernel
theorem dX9_takePiece_85 : decode cX9_takePiece 85 = .ok (.iconst 1, 1) := by decide +kernel
theorem dX9_takePiece_86 : decode cX9_takePiece 86 = .ok (.iadd, 1) := by decide +kernel
theorem dX9_takePiece_87 : decode cX9_takePiece 87 = .ok (.putfield 31, 3) := by decide +kernel
theorem dX9_takePiece_90 : decode cX9_takePiece 90 = .ok (.aload_n 0, 1) := by decide +kernel
theorem dX9_takePiece_91 : decode cX9_takePiece 91 = .ok (.getfield 27, 3) := by decide +kernel
theorem dX9_takePiece_94 : decode cX9_takePiece 94 = .ok (.ireturn, 1) := by decide +kernel
theorem dX9_takePiece_95 : decode cX9_takePiece 95 = .ok (.aload_n 0, 1) := by decide +kernel
theorem dX9_takePiece_96 : decode cX9_takePiece 96 = .ok (.invokevirtual 217, 3) := by decide +kernel
theorem dX9_takePiece_99 : decode cX9_takePiece 99 = .ok (.ireturn, 1) := by decide +kernel
theorem dX9_finishProgram_0 : decode cX9_finishProgram 0 = .ok (.aload_n 0, 1) := by decide +kernel
theorem dX9_finishProgram_1 : decode cX9_finishProgram 1 = .ok (.getfield 40, 3) := by decide +kernel
theorem dX9_finishProgram_4 : decode cX9_finishProgram 4 = .ok (.aload_n 0, 1) := by decide +kernel
theorem dX9_finishProgram_5 : decode cX9_finishProgram 5 = .ok (.getfield 48, 3) := by decide +kernel
theorem dX9_finishProgram_8 : decode cX9_finishProgram 8 = .ok (.invokevirtual 185, 3) := by decide +kernel
theorem dX9_finishProgram_11 : decode cX9_finishProgram 11 = .ok (.aload_n 0, 1) := by decide +kernel
theorem dX9_finishProgram_12 : decode cX9_finishProgram 12 = .ok (.getfield 48, 3) := by decide +kernel
theorem dX9_finishProgram_15 : decode cX9_finishProgram 15 = .ok (.getfield 202, 3) := by decide +kernel
theorem dX9_finishProgram_18 : decode cX9_finishProgram 18 = .ok (.invokevirtual 220, 3) := by decide +kernel
theorem dX9_finishProgram_21 : decode cX9_finishProgram 21 = .ok (.aload_n 0, 1) := by decide +kernel
theorem dX9_finishProgram_22 : decode cX9_finishProgram 22 = .ok (.getfield 48, 3) := by decide +kernel
theorem dX9_finishProgram_25 : decode cX9_finishProgram 25 = .ok (.getfield 224, 3) := by decide +kernel
theorem dX9_finishProgram_28 : decode cX9_finishProgram 28 = .ok (.lcmp, 1) := by decide +kernel
theorem dX9_finishProgram_29 : decode cX9_finishProgram 29 = .ok (.ifCond .ne 7, 3) := by decide +kernel
theorem dX9_finishProgram_32 : decode cX9_finishProgram 32 = .ok (.iconst 1, 1) := by decide +kernel
theorem dX9_finishProgram_33 : decode cX9_finishProgram 33 = .ok (.goto 4, 3) := by decide +kernel
theorem dX9_finishProgram_36 : decode cX9_finishProgram 36 = .ok (.iconst 0, 1) := by decide +kernel
theorem dX9_finishProgram_37 : decode cX9_finishProgram 37 = .ok (.istore_n 1, 1) := by decide +kernel
theorem dX9_finishProgram_38 : decode cX9_finishProgram 38 = .ok (.iload_n 1, 1) := by decide +kernel
theorem dX9_finishProgram_39 : decode cX9_finishProgram 39 = .ok (.ifCond .eq 14, 3) := by decide +kernel
theorem dX9_finishProgram_42 : decode cX9_finishProgram 42 = .ok (.aload_n 0, 1) := by decide +kernel
theorem dX9_finishProgram_43 : decode cX9_finishProgram 43 = .ok (.getfield 48, 3) := by decide +kernel
theorem dX9_finishProgram_46 : decode cX9_finishProgram 46 = .ok (.iconst 2, 1) := by decide +kernel
theorem dX9_finishProgram_47 : decode cX9_finishProgram 47 = .ok (.putfield 182, 3) := by decide +kernel
theorem dX9_finishProgram_50 : decode cX9_finishProgram 50 = .ok (.goto 10, 3) := by decide +kernel
theorem dX9_finishProgram_53 : decode cX9_finishProgram 53 = .ok (.aload_n 0, 1) := by decide +kernel
theorem dX9_finishProgram_54 : decode cX9_finishProgram 54 = .ok (.getfield 48, 3) := by decide +kernel
theorem dX9_finishProgram_57 : decode cX9_finishProgram 57 = .ok (.invokevirtual 227, 3) := by decide +kernel
theorem dX9_finishProgram_60 : decode cX9_finishProgram 60 = .ok (.aload_n 0, 1) := by decide +kernel
theorem dX9_finishProgram_61 : decode cX9_finishProgram 61 = .ok (.getfield 48, 3) := by decide +kernel
theorem dX9_finishProgram_64 : decode cX9_finishProgram 64 = .ok (.invokevirtual 199, 3) := by decide +kernel
theorem dX9_finishProgram_67 : decode cX9_finishProgram 67 = .ok (.aload_n 0, 1) := by decide +kernel
theorem dX9_finishProgram_68 : decode cX9_finishProgram 68 = .ok (.getfield 40, 3) := by decide +kernel
theorem dX9_finishProgram_71 : decode cX9_finishProgram 71 = .ok (.invokevirtual 145, 3) := by decide +kernel
theorem dX9_finishProgram_74 : decode cX9_finishProgram 74 = .ok (.ifCond .eq 6, 3) := by decide +kernel
theorem dX9_finishProgram_77 : decode cX9_finishProgram 77 = .ok (.bipush (-3), 2) := by decide +kernel
theorem dX9_finishProgram_79 : decode cX9_finishProgram 79 = .ok (.ireturn, 1) := by decide +kernel
theorem dX9_finishProgram_80 : decode cX9_finishProgram 80 = .ok (.iload_n 1, 1) := by decide +kernel
theorem dX9_finishProgram_81 : decode cX9_finishProgram 81 = .ok (.ifCond .ne 10, 3) := by decide +kernel
theorem dX9_finishProgram_84 : decode cX9_finishProgram 84 = .ok (.aload_n 0, 1) := by decide +kernel
theorem dX9_finishProgram_85 : decode cX9_finishProgram 85 = .ok (.bipush 8, 2) := by decide +kernel
theorem dX9_finishProgram_87 : decode cX9_finishProgram 87 = .ok (.invokevirtual 80, 3) := by decide +kernel
theorem dX9_finishProgram_90 : decode cX9_finishProgram 90 = .ok (.ireturn, 1) := by decide +kernel
theorem dX9_finishProgram_91 : decode cX9_finishProgram 91 = .ok (.aload_n 0, 1) := by decide +kernel
theorem dX9_finishProgram_92 : decode cX9_finishProgram 92 = .ok (.invokevirtual 56, 3) := by decide +kernel
theorem dX9_finishProgram_95 : decode cX9_finishProgram 95 = .ok (.iconst 0, 1) := by decide +kernel
theorem dX9_finishProgram_96 : decode cX9_finishProgram 96 = .ok (.ireturn, 1) := by decide +kernel
end
section
theorem dX10_init_0 : decode cX10_init 0 = .ok (.aload_n 0, 1) := by decide +kernel
theorem dX10_init_1 : decode cX10_init 1 = .ok (.invokespecial 3, 3) := by decide +kernel
theorem dX10_init_4 : decode cX10_init 4 = .ok (.aload_n 0, 1) := by decide +kernel
theorem dX10_init_5 : decode cX10_init 5 = .ok (.new 9, 3) := by decide +kernel
theorem dX10_init_8 : decode cX10_init 8 = .ok (.dup, 1) := by decide +kernel
theorem dX10_init_9 : decode cX10_init 9 = .ok (.sipush 300, 3) := by decide +kernel
theorem dX10_init_12 : decode cX10_init 12 = .ok (.invokespecial 11, 3) := by decide +kernel
theorem dX10_init_15 : decode cX10_init 15 = .ok (.putfield 14, 3) := by decide +kernel
theorem dX10_init_18 : decode cX10_init 18 = .ok (.aload_n 0, 1) := by decide +kernel
theorem dX10_init_19 : decode cX10_init 19 = .ok (.iconst 4, 1) := by decide +kernel
theorem dX10_init_20 : decode cX10_init 20 = .ok (.anewarray 18, 3) := by decide +kernel
theorem dX10_init_23 : decode cX10_init 23 = .ok (.putfield 20, 3) := by decide +kernel
theorem dX10_init_26 : decode cX10_init 26 = .ok (.iconst 1, 1) := by decide +kernel
theorem dX10_init_27 : decode cX10_init 27 = .ok (.iload_n 1, 1) := by decide +kernel
theorem dX10_init_28 : decode cX10_init 28 = .ok (.sipush 1024, 3) := by decide +kernel
theorem dX10_init_31 : decode cX10_init 31 = .ok (.invokestatic 24, 3) := by decide +kernel
theorem dX10_init_34 : decode cX10_init 34 = .ok (.invokestatic 30, 3) := by decide +kernel
theorem dX10_init_37 : decode cX10_init 37 = .ok (.istore_n 2, 1) := by decide +kernel
theorem dX10_init_38 : decode cX10_init 38 = .ok (.new 33, 3) := by decide +kernel
theorem dX10_init_41 : decode cX10_init 41 = .ok (.dup, 1) := by decide +kernel
theorem dX10_init_42 : decode cX10_init 42 = .ok (.invokespecial 35, 3) := by decide +kernel
theorem dX10_init_45 : decode cX10_init 45 = .ok (.astore_n 3, 1) := by decide +kernel
theorem dX10_init_46 : decode cX10_init 46 = .ok (.aload_n 0, 1) := by decide +kernel
theorem dX10_init_47 : decode cX10_init 47 = .ok (.new 36, 3) := by decide +kernel
theorem dX10_init_50 : decode cX10_init 50 = .ok (.dup, 1) := by decide +kernel
theorem dX10_init_51 : decode cX10_init 51 = .ok (.aload_n 3, 1) := by decide +kernel
theorem dX10_init_52 : decode cX10_init 52 = .ok (.invokespecial 38, 3) := by decide +kernel
theorem dX10_init_55 : decode cX10_init 55 = .ok (.putfield 41, 3) := by decide +kernel
theorem dX10_init_58 : decode cX10_init 58 = .ok (.aload_n 0, 1) := by decide +kernel
theorem dX10_init_59 : decode cX10_init 59 = .ok (.new 45, 3) := by decide +kernel
theorem dX10_init_62 : decode cX10_init 62 = .ok (.dup, 1) := by decide +kernel
theorem dX10_init_63 : decode cX10_init 63 = .ok (.iload_n 2, 1) := by decide +kernel
theorem dX10_init_64 : decode cX10_init 64 = .ok (.invokespecial 47, 3) := by decide +kernel
theorem dX10_init_67 : decode cX10_init 67 = .ok (.putfield 48, 3) := by decide +kernel
theorem dX10_init_70 : decode cX10_init 70 = .ok (.iconst 0, 1) := by decide +kernel
theorem dX10_init_71 : decode cX10_init 71 = .ok (.istore 4, 2) := by decide +kernel
theorem dX10_init_73 : decode cX10_init 73 = .ok (.iload 4, 2) := by decide +kernel
theorem dX10_init_75 : decode cX10_init 75 = .ok (.iconst 4, 1) := by decide +kernel
theorem dX10_init_76 : decode cX10_init 76 = .ok (.if_icmp .ge 29, 3) := by decide +kernel
theorem dX10_init_79 : decode cX10_init 79 = .ok (.aload_n 0, 1) := by decide +kernel
theorem dX10_init_80 : decode cX10_init 80 = .ok (.getfield 20, 3) := by decide +kernel
theorem dX10_init_83 : decode cX10_init 83 = .ok (.iload 4, 2) := by decide +kernel
theorem dX10_init_85 : decode cX10_init 85 = .ok (.new 18, 3) := by decide +kernel
theorem dX10_init_88 : decode cX10_init 88 = .ok (.dup, 1) := by decide +kernel
theorem dX10_init_89 : decode cX10_init 89 = .ok (.aload_n 0, 1) := by decide +kernel
theorem dX10_init_90 : decode cX10_init 90 = .ok (.getfield 48, 3) := by decide +kernel
theorem dX10_init_93 : decode cX10_init 93 = .ok (.iload 4, 2) := by decide +kernel
theorem dX10_init_95 : decode cX10_init 95 = .ok (.invokespecial 52, 3) := by decide +kernel
theorem dX10_init_98 : decode cX10_init 98 = .ok (.aastore, 1) := by decide +kernel
theorem dX10_init_99 : decode cX10_init 99 = .ok (.iinc 4 1, 3) := by decide +kernel
theorem dX10_init_102 : decode cX10_init 102 = .ok (.goto (-29), 3) := by decide +kernel
theorem dX10_init_105 : decode cX10_init 105 = .ok (.aload_n 0, 1) := by decide +kernel
theorem dX10_init_106 : decode cX10_init 106 = .ok (.new 55, 3) := by decide +kernel
theorem dX10_init_109 : decode cX10_init 109 = .ok (.dup, 1) := by decide +kernel
theorem dX10_init_110 : decode cX10_init 110 = .ok (.aload_n 0, 1) := by decide +kernel
theorem dX10_init_111 : decode cX10_init 111 = .ok (.getfield 48, 3) := by decide +kernel
theorem dX10_init_114 : decode cX10_init 114 = .ok (.iload_n 2, 1) := by decide +kernel
theorem dX10_init_115 : decode cX10_init 115 = .ok (.invokespecial 57, 3) := by decide +kernel
theorem dX10_init_118 : decode cX10_init 118 = .ok (.putfield 58, 3) := by decide +kernel
theorem dX10_init_121 : decode cX10_init 121 = .ok (.aload_n 0, 1) := by decide +kernel
theorem dX10_init_122 : decode cX10_init 122 = .ok (.getfield 58, 3) := by decide +kernel
theorem dX10_init_125 : decode cX10_init 125 = .ok (.invokevirtual 62, 3) := by decide +kernel
theorem dX10_init_128 : decode cX10_init 128 = .ok (.aload_n 0, 1) := by decide +kernel
theorem dX10_init_129 : decode cX10_init 129 = .ok (.new 65, 3) := by decide +kernel
theorem dX10_init_132 : decode cX10_init 132 = .ok (.dup, 1) := by decide +kernel
theorem dX10_init_133 : decode cX10_init 133 = .ok (.aload_n 0, 1) := by decide +kernel
theorem dX10_init_134 : decode cX10_init 134 = .ok (.getfield 48, 3) := by decide +kernel
theorem dX10_init_137 : decode cX10_init 137 = .ok (.aload_n 0, 1) := by decide +kernel
theorem dX10_init_138 : decode cX10_init 138 = .ok (.getfield 58, 3) := by decide +kernel
theorem dX10_init_141 : decode cX10_init 141 = .ok (.invokespecial 67, 3) := by decide +kernel
theorem dX10_init_144 : decode cX10_init 144 = .ok (.putfield 70, 3) := by decide +kernel
theorem dX10_init_147 : decode cX10_init 147 = .ok (.aload_n 0, 1) := by decide +kernel
theorem dX10_init_148 : decode cX10_init 148 = .ok (.new 74, 3) := by decide +kernel
theorem dX10_init_151 : decode cX10_init 151 = .ok (.dup, 1) := by decide +kernel
theorem dX10_init_152 : decode cX10_init 152 = .ok (.aload_n 0, 1) := by decide +kernel
theorem dX10_init_153 : decode cX10_init 153 = .ok (.getfield 48, 3) := by decide +kernel
theorem dX10_init_156 : decode cX10_init 156 = .ok (.aload_n 0, 1) := by decide +kernel
theorem dX10_init_157 : decode cX10_init 157 = .ok (.getfield 20, 3) := by decide +kernel
theorem dX10_init_160 : decode cX10_init 160 = .ok (.aload_n 0, 1) := by decide +kernel
theorem dX10_init_161 : decode cX10_init 161 = .ok (.getfield 58, 3) := by decide +kernel
theorem dX10_init_164 : decode cX10_init 164 = .ok (.aload_n 3, 1) := by decide +kernel
theorem dX10_init_165 : decode cX10_init 165 = .ok (.invokespecial 76, 3) := by decide +kernel
theorem dX10_init_168 : decode cX10_init 168 = .ok (.putfield 79, 3) := by decide +kernel
theorem dX10_init_171 : decode cX10_init 171 = .ok (.return_, 1) := by decide +kernel
theorem dX10_feed_0 : decode cX10_feed 0 = .ok (.aload_n 0, 1) := by decide +kernel
theorem dX10_feed_1 : decode cX10_feed 1 = .ok (.getfield 14, 3) := by decide +kernel
theorem dX10_feed_4 : decode cX10_feed 4 = .ok (.invokevirtual 83, 3) := by decide +kernel
theorem dX10_feed_7 : decode cX10_feed 7 = .ok (.bipush 20, 2) := by decide +kernel
theorem dX10_feed_9 : decode cX10_feed 9 = .ok (.iadd, 1) := by decide +kernel
theorem dX10_feed_10 : decode cX10_feed 10 = .ok (.sipush 300, 3) := by decide +kernel
theorem dX10_feed_13 : decode cX10_feed 13 = .ok (.if_icmp .le 6, 3) := by decide +kernel
theorem dX10_feed_16 : decode cX10_feed 16 = .ok (.bipush (-5), 2) := by decide +kernel
theorem dX10_feed_18 : decode cX10_feed 18 = .ok (.ireturn, 1) := by decide +kernel
theorem dX10_feed_19 : decode cX10_feed 19 = .ok (.aload_n 0, 1) := by decide +kernel
theorem dX10_feed_20 : decode cX10_feed 20 = .ok (.getfield 14, 3) := by decide +kernel
theorem dX10_feed_23 : decode cX10_feed 23 = .ok (.iload_n 1, 1) := by decide +kernel
theorem dX10_feed_24 : decode cX10_feed 24 = .ok (.i2l, 1) := by decide +kernel
theorem dX10_feed_25 : decode cX10_feed 25 = .ok (.iconst 4, 1) := by decide +kernel
theorem dX10_feed_26 : decode cX10_feed 26 = .ok (.invokevirtual 87, 3) := by decide +kernel
theorem dX10_feed_29 : decode cX10_feed 29 = .ok (.aload_n 0, 1) := by decide +kernel
theorem dX10_feed_30 : decode cX10_feed 30 = .ok (.getfield 14, 3) := by decide +kernel
theorem dX10_feed_33 : decode cX10_feed 33 = .ok (.iload_n 2, 1) := by decide +kernel
theorem dX10_feed_34 : decode cX10_feed 34 = .ok (.i2l, 1) := by decide +kernel
theorem dX10_feed_35 : decode cX10_feed 35 = .ok (.iconst 4, 1) := by decide +kernel
theorem dX10_feed_36 : decode cX10_feed 36 = .ok (.invokevirtual 87, 3) := by decide +kernel
theorem dX10_feed_39 : decode cX10_feed 39 = .ok (.aload_n 0, 1) := by decide +kernel
theorem dX10_feed_40 : decode cX10_feed 40 = .ok (.getfield 14, 3) := by decide +kernel
theorem dX10_feed_43 : decode cX10_feed 43 = .ok (.iload_n 3, 1) := by decide +kernel
theorem dX10_feed_44 : decode cX10_feed 44 = .ok (.i2l, 1) := by decide +kernel
theorem dX10_feed_45 : decode cX10_feed 45 = .ok (.iconst 4, 1) := by decide +kernel
theorem dX10_feed_46 : decode cX10_feed 46 = .ok (.invokevirtual 87, 3) := by decide +kernel
theorem dX10_feed_49 : decode cX10_feed 49 = .ok (.aload_n 0, 1) := by decide +kernel
theorem dX10_feed_50 : decode cX10_feed 50 = .ok (.getfield 14, 3) := by decide +kernel
theorem dX10_feed_53 : decode cX10_feed 53 = .ok (.iload 4, 2) := by decide +kernel
theorem dX10_feed_55 : decode cX10_feed 55 = .ok (.i2l, 1) := by decide +kernel
theorem dX10_feed_56 : decode cX10_feed 56 = .ok (.iconst 4, 1) := by decide +kernel
theorem dX10_feed_57 : decode cX10_feed 57 = .ok (.invokevirtual 87, 3) := by decide +kernel
theorem dX10_feed_60 : decode cX10_feed 60 = .ok (.aload_n 0, 1) := by decide +kernel
theorem dX10_feed_61 : decode cX10_feed 61 = .ok (.getfield 14, 3) := by decide +kernel
theorem dX10_feed_64 : decode cX10_feed 64 = .ok (.iload 5, 2) := by decide +kernel
theorem dX10_feed_66 : decode cX10_feed 66 = .ok (.i2l, 1) := by decide +kernel
theorem dX10_feed_67 : decode cX10_feed 67 = .ok (.iconst 4, 1) := by decide +kernel
theorem dX10_feed_68 : decode cX10_feed 68 = .ok (.invokevirtual 87, 3) := by decide +kernel
theorem dX10_feed_71 : decode cX10_feed 71 = .ok (.aload_n 0, 1) := by decide +kernel
theorem dX10_feed_72 : decode cX10_feed 72 = .ok (.getfield 14, 3) := by decide +kernel
theorem dX10_feed_75 : decode cX10_feed 75 = .ok (.invokevirtual 83, 3) := by decide +kernel
theorem dX10_feed_78 : decode cX10_feed 78 = .ok (.ireturn, 1) := by decide +kernel
theorem dX10_end_0 : decode cX10_end 0 = .ok (.iload_n 1, 1) := by decide +kernel
theorem dX10_end_1 : decode cX10_end 1 = .ok (.ifCond .lt 21, 3) := by decide +kernel
theorem dX10_end_4 : decode cX10_end 4 = .ok (.iload_n 1, 1) := by decide +kernel
theorem dX10_end_5 : decode cX10_end 5 = .ok (.bipush 20, 2) := by decide +kernel
theorem dX10_end_7 : decode cX10_end 7 = .ok (.if_icmp .gt 15, 3) := by decide +kernel
theorem dX10_end_10 : decode cX10_end 10 = .ok (.aload_n 0, 1) := by decide +kernel
theorem dX10_end_11 : decode cX10_end 11 = .ok (.getfield 14, 3) := by decide +kernel
theorem dX10_end_14 : decode cX10_end 14 = .ok (.invokevirtual 83, 3) := by decide +kernel
theorem dX10_end_17 : decode cX10_end 17 = .ok (.bipush 20, 2) := by decide +kernel
theorem dX10_end_19 : decode cX10_end 19 = .ok (.if_icmp .ge 5, 3) := by decide +kernel
theorem dX10_end_22 : decode cX10_end 22 = .ok (.iconst (-1), 1) := by decide +kernel
theorem dX10_end_23 : decode cX10_end 23 = .ok (.ireturn, 1) := by decide +kernel
theorem dX10_end_24 : decode cX10_end 24 = .ok (.aload_n 0, 1) := by decide +kernel
theorem dX10_end_25 : decode cX10_end 25 = .ok (.getfield 14, 3) := by decide +kernel
theorem dX10_end_28 : decode cX10_end 28 = .ok (.bipush 20, 2) := by decide +kernel
theorem dX10_end_30 : decode cX10_end 30 = .ok (.iload_n 1, 1) := by decide +kernel
theorem dX10_end_31 : decode cX10_end 31 = .ok (.isub, 1) := by decide +kernel
theorem dX10_end_32 : decode cX10_end 32 = .ok (.invokevirtual 91, 3) := by decide +kernel
theorem dX10_end_35 : decode cX10_end 35 = .ok (.aload_n 0, 1) := by decide +kernel
theorem dX10_end_36 : decode cX10_end 36 = .ok (.getfield 14, 3) := by decide +kernel
theorem dX10_end_39 : decode cX10_end 39 = .ok (.invokevirtual 83, 3) := by decide +kernel
theorem dX10_end_42 : decode cX10_end 42 = .ok (.ireturn, 1) := by decide +kernel
theorem dX10_byteOf_0 : decode cX10_byteOf 0 = .ok (.aload_n 0, 1) := by decide +kernel
theorem dX10_byteOf_1 : decode cX10_byteOf 1 = .ok (.getfield 14, 3) := by decide +kernel
theorem dX10_byteOf_4 : decode cX10_byteOf 4 = .ok (.iload_n 1, 1) := by decide +kernel
theorem dX10_byteOf_5 : decode cX10_byteOf 5 = .ok (.invokevirtual 94, 3) := by decide +kernel
theorem dX10_byteOf_8 : decode cX10_byteOf 8 = .ok (.ifCond .eq 14, 3) := by decide +kernel
theorem dX10_byteOf_11 : decode cX10_byteOf 11 = .ok (.aload_n 0, 1) := by decide +kernel
theorem dX10_byteOf_12 : decode cX10_byteOf 12 = .ok (.getfield 14, 3) := by decide +kernel
theorem dX10_byteOf_15 : decode cX10_byteOf 15 = .ok (.iload_n 1, 1) := by decide +kernel
theorem dX10_byteOf_16 : decode cX10_byteOf 16 = .ok (.invokevirtual 98, 3) := by decide +kernel
theorem dX10_byteOf_19 : decode cX10_byteOf 19 = .ok (.goto 4, 3) := by decide +kernel
theorem dX10_byteOf_22 : decode cX10_byteOf 22 = .ok (.iconst (-1), 1) := by decide +kernel
theorem dX10_byteOf_23 : decode cX10_byteOf 23 = .ok (.ireturn, 1) := by decide +kernel
theorem dX10_plan_0 : decode cX10_plan 0 = .ok (.aload_n 0, 1) := by decide +kernel
theorem dX10_plan_1 : decode cX10_plan 1 = .ok (.getfield 41, 3) := by decide +kernel
theorem dX10_plan_4 : decode cX10_plan 4 = .ok (.iload_n 1, 1) := by decide +kernel
theorem dX10_plan_5 : decode cX10_plan 5 = .ok (.iload_n 2, 1) := by decide +kernel
theorem dX10_plan_6 : decode cX10_plan 6 = .ok (.iload_n 3, 1) := by decide +kernel
theorem dX10_plan_7 : decode cX10_plan 7 = .ok (.invokevirtual 102, 3) := by decide +kernel
theorem dX10_plan_10 : decode cX10_plan 10 = .ok (.ireturn, 1) := by decide +kernel
theorem dX10_image_0 : decode cX10_image 0 = .ok (.aload_n 0, 1) := by decide +kernel
theorem dX10_image_1 : decode cX10_image 1 = .ok (.getfield 41, 3) := by decide +kernel
theorem dX10_image_4 : decode cX10_image 4 = .ok (.iload_n 1, 1) := by decide +kernel
theorem dX10_image_5 : decode cX10_image 5 = .ok (.iload_n 2, 1) := by decide +kernel
theorem dX10_image_6 : decode cX10_image 6 = .ok (.iload_n 3, 1) := by decide +kernel
theorem dX10_image_7 : decode cX10_image 7 = .ok (.invokevirtual 106, 3) := by decide +kernel
theorem dX10_image_10 : decode cX10_image 10 = .ok (.ireturn, 1) := by decide +kernel
theorem dX10_clear_0 : decode cX10_clear 0 = .ok (.aload_n 0, 1) := by decide +kernel
theorem dX10_clear_1 : decode cX10_clear 1 = .ok (.getfield 41, 3) := by decide +kernel
theorem dX10_clear_4 : decode cX10_clear 4 = .ok (.invokevirtual 109, 3) := by decide +kernel
theorem dX10_clear_7 : decode cX10_clear 7 = .ok (.ireturn, 1) := by decide +kernel
theorem dX10_draft_0 : decode cX10_draft 0 = .ok (.aload_n 0, 1) := by decide +kernel
theorem dX10_draft_1 : decode cX10_draft 1 = .ok (.getfield 41, 3) := by decide +kernel
theorem dX10_draft_4 : decode cX10_draft 4 = .ok (.iload_n 1, 1) := by decide +kernel
theorem dX10_draft_5 : decode cX10_draft 5 = .ok (.iload_n 2, 1) := by decide +kernel
theorem dX10_draft_6 : decode cX10_draft 6 = .ok (.iload_n 3, 1) := by decide +kernel
theorem dX10_draft_7 : decode cX10_draft 7 = .ok (.invokevirtual 112, 3) := by decide +kernel
theorem dX10_draft_10 : decode cX10_draft 10 = .ok (.ireturn, 1) := by decide +kernel
theorem dX10_sign_0 : decode cX10_sign 0 = .ok (.aload_n 0, 1) := by decide +kernel
theorem dX10_sign_1 : decode cX10_sign 1 = .ok (.getfield 41, 3) := by decide +kernel
theorem dX10_sign_4 : decode cX10_sign 4 = .ok (.iload_n 1, 1) := by decide +kernel
theorem dX10_sign_5 : decode cX10_sign 5 = .ok (.invokevirtual 115, 3) := by decide +kernel
theorem dX10_sign_8 : decode cX10_sign 8 = .ok (.ireturn, 1) := by decide +kernel
theorem dX10_show_0 : decode cX10_show 0 = .ok (.aload_n 0, 1) := by decide +kernel
theorem dX10_show_1 : decode cX10_show 1 = .ok (.getfield 41, 3) := by decide +kernel
theorem dX10_show_4 : decode cX10_show 4 = .ok (.aload_n 0, 1) := by decide +kernel
theorem dX10_show_5 : decode cX10_show 5 = .ok (.getfield 14, 3) := by decide +kernel
theorem dX10_show_8 : decode cX10_show 8 = .ok (.invokevirtual 118, 3) := by decide +kernel
theorem dX10_show_11 : decode cX10_show 11 = .ok (.ireturn, 1) := by decide +kernel
theorem dX10_piece_0 : decode cX10_piece 0 = .ok (.aload_n 0, 1) := by decide +kernel
theorem dX10_piece_1 : decode cX10_piece 1 = .ok (.getfield 41, 3) := by decide +kernel
theorem dX10_piece_4 : decode cX10_piece 4 = .ok (.iload_n 1, 1) := by decide +kernel
theorem dX10_piece_5 : decode cX10_piece 5 = .ok (.iload_n 2, 1) := by decide +kernel
theorem dX10_piece_6 : decode cX10_piece 6 = .ok (.aload_n 0, 1) := by decide +kernel
theorem dX10_piece_7 : decode cX10_piece 7 = .ok (.getfield 14, 3) := by decide +kernel
theorem dX10_piece_10 : decode cX10_piece 10 = .ok (.invokevirtual 122, 3) := by decide +kernel
theorem dX10_piece_13 : decode cX10_piece 13 = .ok (.ireturn, 1) := by decide +kernel
theorem dX10_spoil_0 : decode cX10_spoil 0 = .ok (.aload_n 0, 1) := by decide +kernel
theorem dX10_spoil_1 : decode cX10_spoil 1 = .ok (.getfield 14, 3) := by decide +kernel
theorem dX10_spoil_4 : decode cX10_spoil 4 = .ok (.iload_n 1, 1) := by decide +kernel
theorem dX10_spoil_5 : decode cX10_spoil 5 = .ok (.invokevirtual 94, 3) := by decide +kernel
theorem dX10_spoil_8 : decode cX10_spoil 8 = .ok (.ifCond .eq 15, 3) := by decide +kernel
theorem dX10_spoil_11 : decode cX10_spoil 11 = .ok (.iload_n 2, 1) := by decide +kernel
theorem dX10_spoil_12 : decode cX10_spoil 12 = .ok (.iconst 1, 1) := by decide +kernel
theorem dX10_spoil_13 : decode cX10_spoil 13 = .ok (.if_icmp .lt 10, 3) := by decide +kernel
theorem dX10_spoil_16 : decode cX10_spoil 16 = .ok (.iload_n 2, 1) := by decide +kernel
theorem dX10_spoil_17 : decode cX10_spoil 17 = .ok (.sipush 255, 3) := by decide +kernel
theorem dX10_spoil_20 : decode cX10_spoil 20 = .ok (.if_icmp .le 5, 3) := by decide +kernel
theorem dX10_spoil_23 : decode cX10_spoil 23 = .ok (.iconst (-1), 1) := by decide +kernel
theorem dX10_spoil_24 : decode cX10_spoil 24 = .ok (.ireturn, 1) := by decide +kernel
theorem dX10_spoil_25 : decode cX10_spoil 25 = .ok (.aload_n 0, 1) := by decide +kernel
theorem dX10_spoil_26 : decode cX10_spoil 26 = .ok (.getfield 14, 3) := by decide +kernel
theorem dX10_spoil_29 : decode cX10_spoil 29 = .ok (.iload_n 1, 1) := by decide +kernel
theorem dX10_spoil_30 : decode cX10_spoil 30 = .ok (.aload_n 0, 1) := by decide +kernel
theorem dX10_spoil_31 : decode cX10_spoil 31 = .ok (.getfield 14, 3) := by decide +kernel
theorem dX10_spoil_34 : decode cX10_spoil 34 = .ok (.iload_n 1, 1) := by decide +kernel
theorem dX10_spoil_35 : decode cX10_spoil 35 = .ok (.invokevirtual 98, 3) := by decide +kernel
theorem dX10_spoil_38 : decode cX10_spoil 38 = .ok (.iload_n 2, 1) := by decide +kernel
theorem dX10_spoil_39 : decode cX10_spoil 39 = .ok (.ixor, 1) := by decide +kernel
theorem dX10_spoil_40 : decode cX10_spoil 40 = .ok (.invokevirtual 126, 3) := by decide +kernel
theorem dX10_spoil_43 : decode cX10_spoil 43 = .ok (.aload_n 0, 1) := by decide +kernel
theorem dX10_spoil_44 : decode cX10_spoil 44 = .ok (.getfield 14, 3) := by decide +kernel
theorem dX10_spoil_47 : decode cX10_spoil 47 = .ok (.iload_n 1, 1) := by decide +kernel
theorem dX10_spoil_48 : decode cX10_spoil 48 = .ok (.invokevirtual 98, 3) := by decide +kernel
theorem dX10_spoil_51 : decode cX10_spoil 51 = .ok (.ireturn, 1) := by decide +kernel
theorem dX10_begin_0 : decode cX10_begin 0 = .ok (.iload_n 1, 1) := by decide +kernel
theorem dX10_begin_1 : decode cX10_begin 1 = .ok (.ifCond .ge 5, 3) := by decide +kernel
theorem dX10_begin_4 : decode cX10_begin 4 = .ok (.iconst (-1), 1) := by decide +kernel
theorem dX10_begin_5 : decode cX10_begin 5 = .ok (.ireturn, 1) := by decide +kernel
theorem dX10_begin_6 : decode cX10_begin 6 = .ok (.aload_n 0, 1) := by decide +kernel
theorem dX10_begin_7 : decode cX10_begin 7 = .ok (.getfield 48, 3) := by decide +kernel
theorem dX10_begin_10 : decode cX10_begin 10 = .ok (.invokevirtual 130, 3) := by decide +kernel
theorem dX10_begin_13 : decode cX10_begin 13 = .ok (.ifCond .eq 6, 3) := by decide +kernel
theorem dX10_begin_16 : decode cX10_begin 16 = .ok (.bipush (-3), 2) := by decide +kernel
theorem dX10_begin_18 : decode cX10_begin 18 = .ok (.ireturn, 1) := by decide +kernel
theorem dX10_begin_19 : decode cX10_begin 19 = .ok (.aload_n 0, 1) := by decide +kernel
theorem dX10_begin_20 : decode cX10_begin 20 = .ok (.getfield 79, 3) := by decide +kernel
theorem dX10_begin_23 : decode cX10_begin 23 = .ok (.invokevirtual 134, 3) := by decide +kernel
theorem dX10_begin_26 : decode cX10_begin 26 = .ok (.ifCond .ne 13, 3) := by decide +kernel
theorem dX10_begin_29 : decode cX10_begin 29 = .ok (.aload_n 0, 1) := by decide +kernel
theorem dX10_begin_30 : decode cX10_begin 30 = .ok (.getfield 70, 3) := by decide +kernel
theorem dX10_begin_33 : decode cX10_begin 33 = .ok (.invokevirtual 137, 3) := by decide +kernel
theorem dX10_begin_36 : decode cX10_begin 36 = .ok (.ifCond .ne 6, 3) := by decide +kernel
theorem dX10_begin_39 : decode cX10_begin 39 = .ok (.bipush (-4), 2) := by decide +kernel
theorem dX10_begin_41 : decode cX10_begin 41 = .ok (.ireturn, 1) := by decide +kernel
theorem dX10_begin_42 : decode cX10_begin 42 = .ok (.aload_n 0, 1) := by decide +kernel
theorem dX10_begin_43 : decode cX10_begin 43 = .ok (.getfield 79, 3) := by decide +kernel
theorem dX10_begin_46 : decode cX10_begin 46 = .ok (.iload_n 1, 1) := by decide +kernel
theorem dX10_begin_47 : decode cX10_begin 47 = .ok (.invokevirtual 140, 3) := by decide +kernel
theorem dX10_begin_50 : decode cX10_begin 50 = .ok (.ireturn, 1) := by decide +kernel
theorem dX10_answer_0 : decode cX10_answer 0 = .ok (.aload_n 0, 1) := by decide +kernel
theorem dX10_answer_1 : decode cX10_answer 1 = .ok (.getfield 48, 3) := by decide +kernel
theorem dX10_answer_4 : decode cX10_answer 4 = .ok (.invokevirtual 130, 3) := by decide +kernel
theorem dX10_answer_7 : decode cX10_answer 7 = .ok (.ifCond .eq 6, 3) := by decide +kernel
theorem dX10_answer_10 : decode cX10_answer 10 = .ok (.bipush (-3), 2) := by decide +kernel
theorem dX10_answer_12 : decode cX10_answer 12 = .ok (.ireturn, 1) := by decide +kernel
theorem dX10_answer_13 : decode cX10_answer 13 = .ok (.aload_n 0, 1) := by decide +kernel
theorem dX10_answer_14 : decode cX10_answer 14 = .ok (.getfield 79, 3) := by decide +kernel
theorem dX10_answer_17 : decode cX10_answer 17 = .ok (.invokevirtual 134, 3) := by decide +kernel
theorem dX10_answer_20 : decode cX10_answer 20 = .ok (.ifCond .ne 6, 3) := by decide +kernel
theorem dX10_answer_23 : decode cX10_answer 23 = .ok (.bipush (-4), 2) := by decide +kernel
theorem dX10_answer_25 : decode cX10_answer 25 = .ok (.ireturn, 1) := by decide +kernel
theorem dX10_answer_26 : decode cX10_answer 26 = .ok (.aload_n 0, 1) := by decide +kernel
theorem dX10_answer_27 : decode cX10_answer 27 = .ok (.getfield 79, 3) := by decide +kernel
theorem dX10_answer_30 : decode cX10_answer 30 = .ok (.getfield 143, 3) := by decide +kernel
theorem dX10_answer_33 : decode cX10_answer 33 = .ok (.iconst 1, 1) := by decide +kernel
theorem dX10_answer_34 : decode cX10_answer 34 = .ok (.if_icmp .ne 18, 3) := by decide +kernel
theorem dX10_answer_37 : decode cX10_answer 37 = .ok (.aload_n 0, 1) := by decide +kernel
theorem dX10_answer_38 : decode cX10_answer 38 = .ok (.getfield 79, 3) := by decide +kernel
theorem dX10_answer_41 : decode cX10_answer 41 = .ok (.aload_n 0, 1) := by decide +kernel
theorem dX10_answer_42 : decode cX10_answer 42 = .ok (.getfield 14, 3) := by decide +kernel
theorem dX10_answer_45 : decode cX10_answer 45 = .ok (.invokevirtual 147, 3) := by decide +kernel
theorem dX10_answer_48 : decode cX10_answer 48 = .ok (.istore_n 1, 1) := by decide +kernel
theorem dX10_answer_49 : decode cX10_answer 49 = .ok (.goto 41, 3) := by decide +kernel
theorem dX10_answer_52 : decode cX10_answer 52 = .ok (.aload_n 0, 1) := by decide +kernel
theorem dX10_answer_53 : decode cX10_answer 53 = .ok (.getfield 79, 3) := by decide +kernel
theorem dX10_answer_56 : decode cX10_answer 56 = .ok (.getfield 143, 3) := by decide +kernel
theorem dX10_answer_59 : decode cX10_answer 59 = .ok (.iconst 5, 1) := by decide +kernel
theorem dX10_answer_60 : decode cX10_answer 60 = .ok (.if_icmp .ne 18, 3) := by decide +kernel
theorem dX10_answer_63 : decode cX10_answer 63 = .ok (.aload_n 0, 1) := by decide +kernel
theorem dX10_answer_64 : decode cX10_answer 64 = .ok (.getfield 79, 3) := by decide +kernel
theorem dX10_answer_67 : decode cX10_answer 67 = .ok (.aload_n 0, 1) := by decide +kernel
theorem dX10_answer_68 : decode cX10_answer 68 = .ok (.getfield 14, 3) := by decide +kernel
theorem dX10_answer_71 : decode cX10_answer 71 = .ok (.invokevirtual 150, 3) := by decide +kernel
theorem dX10_answer_74 : decode cX10_answer 74 = .ok (.istore_n 1, 1) := by decide +kernel
theorem dX10_answer_75 : decode cX10_answer 75 = .ok (.goto 15, 3) := by decide +kernel
theorem dX10_answer_78 : decode cX10_answer 78 = .ok (.aload_n 0, 1) := by decide +kernel
theorem dX10_answer_79 : decode cX10_answer 79 = .ok (.getfield 79, 3) := by decide +kernel
theorem dX10_answer_82 : decode cX10_answer 82 = .ok (.aload_n 0, 1) := by decide +kernel
theorem dX10_answer_83 : decode cX10_answer 83 = .ok (.getfield 14, 3) := by decide +kernel
theorem dX10_answer_86 : decode cX10_answer 86 = .ok (.invokevirtual 153, 3) := by decide +kernel
theorem dX10_answer_89 : decode cX10_answer 89 = .ok (.istore_n 1, 1) := by decide +kernel
theorem dX10_answer_90 : decode cX10_answer 90 = .ok (.aload_n 0, 1) := by decide +kernel
theorem dX10_answer_91 : decode cX10_answer 91 = .ok (.getfield 14, 3) := by decide +kernel
theorem dX10_answer_94 : decode cX10_answer 94 = .ok (.invokevirtual 156, 3) := by decide +kernel
theorem dX10_answer_97 : decode cX10_answer 97 = .ok (.aload_n 0, 1) := by decide +kernel
theorem dX10_answer_98 : decode cX10_answer 98 = .ok (.iload_n 1, 1) := by decide +kernel
theorem dX10_answer_99 : decode cX10_answer 99 = .ok (.invokevirtual 159, 3) := by decide +kernel
theorem dX10_answer_102 : decode cX10_answer 102 = .ok (.ireturn, 1) := by decide +kernel
theorem dX10_refuse_0 : decode cX10_refuse 0 = .ok (.aload_n 0, 1) := by decide +kernel
theorem dX10_refuse_1 : decode cX10_refuse 1 = .ok (.getfield 48, 3) := by decide +kernel
theorem dX10_refuse_4 : decode cX10_refuse 4 = .ok (.invokevirtual 130, 3) := by decide +kernel
theorem dX10_refuse_7 : decode cX10_refuse 7 = .ok (.ifCond .eq 6, 3) := by decide +kernel
theorem dX10_refuse_10 : decode cX10_refuse 10 = .ok (.bipush (-3), 2) := by decide +kernel
theorem dX10_refuse_12 : decode cX10_refuse 12 = .ok (.ireturn, 1) := by decide +kernel
theorem dX10_refuse_13 : decode cX10_refuse 13 = .ok (.aload_n 0, 1) := by decide +kernel
theorem dX10_refuse_14 : decode cX10_refuse 14 = .ok (.getfield 79, 3) := by decide +kernel
theorem dX10_refuse_17 : decode cX10_refuse 17 = .ok (.invokevirtual 134, 3) := by decide +kernel
theorem dX10_refuse_20 : decode cX10_refuse 20 = .ok (.ifCond .ne 6, 3) := by decide +kernel
theorem dX10_refuse_23 : decode cX10_refuse 23 = .ok (.bipush (-4), 2) := by decide +kernel
theorem dX10_refuse_25 : decode cX10_refuse 25 = .ok (.ireturn, 1) := by decide +kernel
theorem dX10_refuse_26 : decode cX10_refuse 26 = .ok (.aload_n 0, 1) := by decide +kernel
theorem dX10_refuse_27 : decode cX10_refuse 27 = .ok (.getfield 79, 3) := by decide +kernel
theorem dX10_refuse_30 : decode cX10_refuse 30 = .ok (.invokevirtual 162, 3) := by decide +kernel
theorem dX10_refuse_33 : decode cX10_refuse 33 = .ok (.ireturn, 1) := by decide +kernel
theorem dX10_awaits_0 : decode cX10_awaits 0 = .ok (.iload_n 1, 1) := by decide +kernel
theorem dX10_awaits_1 : decode cX10_awaits 1 = .ok (.tableswitch 51 0 2 #[27, 35, 43], 27) := by decide +kernel
theorem dX10_awaits_28 : decode cX10_awaits 28 = .ok (.aload_n 0, 1) := by decide +kernel
theorem dX10_awaits_29 : decode cX10_awaits 29 = .ok (.getfield 79, 3) := by decide +kernel
theorem dX10_awaits_32 : decode cX10_awaits 32 = .ok (.getfield 143, 3) := by decide +kernel
theorem dX10_awaits_35 : decode cX10_awaits 35 = .ok (.ireturn, 1) := by decide +kernel
theorem dX10_awaits_36 : decode cX10_awaits 36 = .ok (.aload_n 0, 1) := by decide +kernel
theorem dX10_awaits_37 : decode cX10_awaits 37 = .ok (.getfield 79, 3) := by decide +kernel
theorem dX10_awaits_40 : decode cX10_awaits 40 = .ok (.invokevirtual 165, 3) := by decide +kernel
theorem dX10_awaits_43 : decode cX10_awaits 43 = .ok (.ireturn, 1) := by decide +kernel
theorem dX10_awaits_44 : decode cX10_awaits 44 = .ok (.aload_n 0, 1) := by decide +kernel
theorem dX10_awaits_45 : decode cX10_awaits 45 = .ok (.getfield 79, 3) := by decide +kernel
theorem dX10_awaits_48 : decode cX10_awaits 48 = .ok (.getfield 168, 3) := by decide +kernel
theorem dX10_awaits_51 : decode cX10_awaits 51 = .ok (.ireturn, 1) := by decide +kernel
theorem dX10_awaits_52 : decode cX10_awaits 52 = .ok (.iconst (-1), 1) := by decide +kernel
theorem dX10_awaits_53 : decode cX10_awaits 53 = .ok (.ireturn, 1) := by decide +kernel
theorem dX10_stop_0 : decode cX10_stop 0 = .ok (.aload_n 0, 1) := by decide +kernel
theorem dX10_stop_1 : decode cX10_stop 1 = .ok (.getfield 48, 3) := by decide +kernel
theorem dX10_stop_4 : decode cX10_stop 4 = .ok (.invokevirtual 130, 3) := by decide +kernel
theorem dX10_stop_7 : decode cX10_stop 7 = .ok (.ifCond .eq 6, 3) := by decide +kernel
theorem dX10_stop_10 : decode cX10_stop 10 = .ok (.bipush (-3), 2) := by decide +kernel
theorem dX10_stop_12 : decode cX10_stop 12 = .ok (.ireturn, 1) := by decide +kernel
theorem dX10_stop_13 : decode cX10_stop 13 = .ok (.aload_n 0, 1) := by decide +kernel
theorem dX10_stop_14 : decode cX10_stop 14 = .ok (.getfield 79, 3) := by decide +kernel
theorem dX10_stop_17 : decode cX10_stop 17 = .ok (.invokevirtual 134, 3) := by decide +kernel
theorem dX10_stop_20 : decode cX10_stop 20 = .ok (.ifCond .eq 7, 3) := by decide +kernel
theorem dX10_stop_23 : decode cX10_stop 23 = .ok (.iconst 1, 1) := by decide +kernel
theorem dX10_stop_24 : decode cX10_stop 24 = .ok (.goto 4, 3) := by decide +kernel
theorem dX10_stop_27 : decode cX10_stop 27 = .ok (.iconst 0, 1) := by decide +kernel
theorem dX10_stop_28 : decode cX10_stop 28 = .ok (.istore_n 1, 1) := by decide +kernel
theorem dX10_stop_29 : decode cX10_stop 29 = .ok (.aload_n 0, 1) := by decide +kernel
theorem dX10_stop_30 : decode cX10_stop 30 = .ok (.getfield 79, 3) := by decide +kernel
theorem dX10_stop_33 : decode cX10_stop 33 = .ok (.invokevirtual 171, 3) := by decide +kernel
theorem dX10_stop_36 : decode cX10_stop 36 = .ok (.iload_n 1, 1) := by decide +kernel
theorem dX10_stop_37 : decode cX10_stop 37 = .ok (.ireturn, 1) := by decide +kernel
theorem dX10_power_0 : decode cX10_power 0 = .ok (.iload_n 1, 1) := by decide +kernel
theorem dX10_power_1 : decode cX10_power 1 = .ok (.iconst (-1), 1) := by decide +kernel
theorem dX10_power_2 : decode cX10_power 2 = .ok (.if_icmp .lt 10, 3) := by decide +kernel
theorem dX10_power_5 : decode cX10_power 5 = .ok (.iload_n 1, 1) := by decide +kernel
theorem dX10_power_6 : decode cX10_power 6 = .ok (.sipush 500, 3) := by decide +kernel
theorem dX10_power_9 : decode cX10_power 9 = .ok (.if_icmp .le 5, 3) := by decide +kernel
theorem dX10_power_12 : decode cX10_power 12 = .ok (.iconst (-1), 1) := by decide +kernel
theorem dX10_power_13 : decode cX10_power 13 = .ok (.ireturn, 1) := by decide +kernel
theorem dX10_power_14 : decode cX10_power 14 = .ok (.aload_n 0, 1) := by decide +kernel
theorem dX10_power_15 : decode cX10_power 15 = .ok (.getfield 48, 3) := by decide +kernel
theorem dX10_power_18 : decode cX10_power 18 = .ok (.iload_n 1, 1) := by decide +kernel
theorem dX10_power_19 : decode cX10_power 19 = .ok (.iload_n 2, 1) := by decide +kernel
theorem dX10_power_20 : decode cX10_power 20 = .ok (.invokevirtual 174, 3) := by decide +kernel
theorem dX10_power_23 : decode cX10_power 23 = .ok (.iconst 1, 1) := by decide +kernel
theorem dX10_power_24 : decode cX10_power 24 = .ok (.ireturn, 1) := by decide +kernel
theorem dX10_boot_0 : decode cX10_boot 0 = .ok (.aload_n 0, 1) := by decide +kernel
theorem dX10_boot_1 : decode cX10_boot 1 = .ok (.getfield 79, 3) := by decide +kernel
theorem dX10_boot_4 : decode cX10_boot 4 = .ok (.invokevirtual 171, 3) := by decide +kernel
theorem dX10_boot_7 : decode cX10_boot 7 = .ok (.aload_n 0, 1) := by decide +kernel
theorem dX10_boot_8 : decode cX10_boot 8 = .ok (.getfield 48, 3) := by decide +kernel
theorem dX10_boot_11 : decode cX10_boot 11 = .ok (.invokevirtual 177, 3) := by decide +kernel
theorem dX10_boot_14 : decode cX10_boot 14 = .ok (.aload_n 0, 1) := by decide +kernel
theorem dX10_boot_15 : decode cX10_boot 15 = .ok (.aload_n 0, 1) := by decide +kernel
theorem dX10_boot_16 : decode cX10_boot 16 = .ok (.getfield 70, 3) := by decide +kernel
theorem dX10_boot_19 : decode cX10_boot 19 = .ok (.invokevirtual 180, 3) := by decide +kernel
theorem dX10_boot_22 : decode cX10_boot 22 = .ok (.invokevirtual 159, 3) := by decide +kernel
theorem dX10_boot_25 : decode cX10_boot 25 = .ok (.ireturn, 1) := by decide +kernel
theorem dX10_test_0 : decode cX10_test 0 = .ok (.aload_n 0, 1) := by decide +kernel
theorem dX10_test_1 : decode cX10_test 1 = .ok (.getfield 48, 3) := by decide +kernel
theorem dX10_test_4 : decode cX10_test 4 = .ok (.invokevirtual 130, 3) := by decide +kernel
theorem dX10_test_7 : decode cX10_test 7 = .ok (.ifCond .eq 6, 3) := by decide +kernel
theorem dX10_test_10 : decode cX10_test 10 = .ok (.bipush (-3), 2) := by decide +kernel
theorem dX10_test_12 : decode cX10_test 12 = .ok (.ireturn, 1) := by decide +kernel
theorem dX10_test_13 : decode cX10_test 13 = .ok (.aload_n 0, 1) := by decide +kernel
theorem dX10_test_14 : decode cX10_test 14 = .ok (.getfield 70, 3) := by decide +kernel
theorem dX10_test_17 : decode cX10_test 17 = .ok (.getfield 182, 3) := by decide +kernel
theorem dX10_test_20 : decode cX10_test 20 = .ok (.ifCond .ne 6, 3) := by decide +kernel
theorem dX10_test_23 : decode cX10_test 23 = .ok (.bipush (-4), 2) := by decide +kernel
theorem dX10_test_25 : decode cX10_test 25 = .ok (.ireturn, 1) := by decide +kernel
theorem dX10_test_26 : decode cX10_test 26 = .ok (.aload_n 0, 1) := by decide +kernel
theorem dX10_test_27 : decode cX10_test 27 = .ok (.iload_n 1, 1) := by decide +kernel
theorem dX10_test_28 : decode cX10_test 28 = .ok (.ifCond .eq 13, 3) := by decide +kernel
theorem dX10_test_31 : decode cX10_test 31 = .ok (.aload_n 0, 1) := by decide +kernel
theorem dX10_test_32 : decode cX10_test 32 = .ok (.getfield 70, 3) := by decide +kernel
theorem dX10_test_35 : decode cX10_test 35 = .ok (.invokevirtual 186, 3) := by decide +kernel
theorem dX10_test_38 : decode cX10_test 38 = .ok (.goto 10, 3) := by decide +kernel
theorem dX10_test_41 : decode cX10_test 41 = .ok (.aload_n 0, 1) := by decide +kernel
theorem dX10_test_42 : decode cX10_test 42 = .ok (.getfield 70, 3) := by decide +kernel
theorem dX10_test_45 : decode cX10_test 45 = .ok (.invokevirtual 189, 3) := by decide +kernel
theorem dX10_test_48 : decode cX10_test 48 = .ok (.invokevirtual 159, 3) := by decide +kernel
theorem dX10_test_51 : decode cX10_test 51 = .ok (.ireturn, 1) := by decide +kernel
theorem dX10_told_0 : decode cX10_told 0 = .ok (.iload_n 1, 1) := by decide +kernel
theorem dX10_told_1 : decode cX10_told 1 = .ok (.tableswitch 155 0 14 #[75, 91, 99, 155, 155, 155, 155, 155, 155, 155, 115, 123, 131, 139, 147], 75) := by decide +kernel
theorem dX10_told_76 : decode cX10_told 76 = .ok (.aload_n 0, 1) := by decide +kernel
theorem dX10_told_77 : decode cX10_told 77 = .ok (.getfield 48, 3) := by decide +kernel
theorem dX10_told_80 : decode cX10_told 80 = .ok (.invokevirtual 130, 3) := by decide +kernel
theorem dX10_told_83 : decode cX10_told 83 = .ok (.ifCond .eq 7, 3) := by decide +kernel
theorem dX10_told_86 : decode cX10_told 86 = .ok (.iconst 1, 1) := by decide +kernel
theorem dX10_told_87 : decode cX10_told 87 = .ok (.goto 4, 3) := by decide +kernel
theorem dX10_told_90 : decode cX10_told 90 = .ok (.iconst 0, 1) := by decide +kernel
theorem dX10_told_91 : decode cX10_told 91 = .ok (.ireturn, 1) := by decide +kernel
theorem dX10_told_92 : decode cX10_told 92 = .ok (.aload_n 0, 1) := by decide +kernel
theorem dX10_told_93 : decode cX10_told 93 = .ok (.getfield 70, 3) := by decide +kernel
theorem dX10_told_96 : decode cX10_told 96 = .ok (.getfield 192, 3) := by decide +kernel
theorem dX10_told_99 : decode cX10_told 99 = .ok (.ireturn, 1) := by decide +kernel
theorem dX10_told_100 : decode cX10_told 100 = .ok (.aload_n 0, 1) := by decide +kernel
theorem dX10_told_101 : decode cX10_told 101 = .ok (.getfield 70, 3) := by decide +kernel
theorem dX10_told_104 : decode cX10_told 104 = .ok (.getfield 182, 3) := by decide +kernel
theorem dX10_told_107 : decode cX10_told 107 = .ok (.ifCond .eq 7, 3) := by decide +kernel
theorem dX10_told_110 : decode cX10_told 110 = .ok (.iconst 1, 1) := by decide +kernel
theorem dX10_told_111 : decode cX10_told 111 = .ok (.goto 4, 3) := by decide +kernel
theorem dX10_told_114 : decode cX10_told 114 = .ok (.iconst 0, 1) := by decide +kernel
theorem dX10_told_115 : decode cX10_told 115 = .ok (.ireturn, 1) := by decide +kernel
theorem dX10_told_116 : decode cX10_told 116 = .ok (.aload_n 0, 1) := by decide +kernel
theorem dX10_told_117 : decode cX10_told 117 = .ok (.getfield 48, 3) := by decide +kernel
theorem dX10_told_120 : decode cX10_told 120 = .ok (.getfield 195, 3) := by decide +kernel
theorem dX10_told_123 : decode cX10_told 123 = .ok (.ireturn, 1) := by decide +kernel
theorem dX10_told_124 : decode cX10_told 124 = .ok (.aload_n 0, 1) := by decide +kernel
theorem dX10_told_125 : decode cX10_told 125 = .ok (.getfield 48, 3) := by decide +kernel
theorem dX10_told_128 : decode cX10_told 128 = .ok (.getfield 198, 3) := by decide +kernel
theorem dX10_told_131 : decode cX10_told 131 = .ok (.ireturn, 1) := by decide +kernel
theorem dX10_told_132 : decode cX10_told 132 = .ok (.aload_n 0, 1) := by decide +kernel
theorem dX10_told_133 : decode cX10_told 133 = .ok (.getfield 48, 3) := by decide +kernel
theorem dX10_told_136 : decode cX10_told 136 = .ok (.getfield 201, 3) := by decide +kernel
theorem dX10_told_139 : decode cX10_told 139 = .ok (.ireturn, 1) := by decide +kernel
theorem dX10_told_140 : decode cX10_told 140 = .ok (.aload_n 0, 1) := by decide +kernel
theorem dX10_told_141 : decode cX10_told 141 = .ok (.getfield 79, 3) := by decide +kernel
theorem dX10_told_144 : decode cX10_told 144 = .ok (.getfield 204, 3) := by decide +kernel
theorem dX10_told_147 : decode cX10_told 147 = .ok (.ireturn, 1) := by decide +kernel
theorem dX10_told_148 : decode cX10_told 148 = .ok (.aload_n 0, 1) := by decide +kernel
theorem dX10_told_149 : decode cX10_told 149 = .ok (.getfield 79, 3) := by decide +kernel
theorem dX10_told_152 : decode cX10_told 152 = .ok (.getfield 207, 3) := by decide +kernel
theorem dX10_told_155 : decode cX10_told 155 = .ok (.ireturn, 1) := by decide +kernel
theorem dX10_told_156 : decode cX10_told 156 = .ok (.aload_n 0, 1) := by decide +kernel
theorem dX10_told_157 : decode cX10_told 157 = .ok (.getfield 58, 3) := by decide +kernel
theorem dX10_told_160 : decode cX10_told 160 = .ok (.iload_n 1, 1) := by decide +kernel
theorem dX10_told_161 : decode cX10_told 161 = .ok (.invokevirtual 210, 3) := by decide +kernel
theorem dX10_told_164 : decode cX10_told 164 = .ok (.ireturn, 1) := by decide +kernel
theorem dX10_trusted_0 : decode cX10_trusted 0 = .ok (.iload_n 1, 1) := by decide +kernel
theorem dX10_trusted_1 : decode cX10_trusted 1 = .ok (.ifCond .lt 8, 3) := by decide +kernel
theorem dX10_trusted_4 : decode cX10_trusted 4 = .ok (.iload_n 1, 1) := by decide +kernel
theorem dX10_trusted_5 : decode cX10_trusted 5 = .ok (.iconst 4, 1) := by decide +kernel
theorem dX10_trusted_6 : decode cX10_trusted 6 = .ok (.if_icmp .lt 5, 3) := by decide +kernel
theorem dX10_trusted_9 : decode cX10_trusted 9 = .ok (.iconst (-1), 1) := by decide +kernel
theorem dX10_trusted_10 : decode cX10_trusted 10 = .ok (.ireturn, 1) := by decide +kernel
theorem dX10_trusted_11 : decode cX10_trusted 11 = .ok (.aload_n 0, 1) := by decide +kernel
theorem dX10_trusted_12 : decode cX10_trusted 12 = .ok (.getfield 20, 3) := by decide +kernel
theorem dX10_trusted_15 : decode cX10_trusted 15 = .ok (.iload_n 1, 1) := by decide +kernel
theorem dX10_trusted_16 : decode cX10_trusted 16 = .ok (.aaload, 1) := by decide +kernel
theorem dX10_trusted_17 : decode cX10_trusted 17 = .ok (.astore 4, 2) := by decide +kernel
theorem dX10_trusted_19 : decode cX10_trusted 19 = .ok (.iload_n 2, 1) := by decide +kernel
theorem dX10_trusted_20 : decode cX10_trusted 20 = .ok (.iconst 3, 1) := by decide +kernel
theorem dX10_trusted_21 : decode cX10_trusted 21 = .ok (.if_icmp .ne 9, 3) := by decide +kernel
theorem dX10_trusted_24 : decode cX10_trusted 24 = .ok (.aload 4, 2) := by decide +kernel
theorem dX10_trusted_26 : decode cX10_trusted 26 = .ok (.invokevirtual 213, 3) := by decide +kernel
theorem dX10_trusted_29 : decode cX10_trusted 29 = .ok (.ireturn, 1) := by decide +kernel
theorem dX10_trusted_30 : decode cX10_trusted 30 = .ok (.aload 4, 2) := by decide +kernel
theorem dX10_trusted_32 : decode cX10_trusted 32 = .ok (.invokevirtual 216, 3) := by decide +kernel
theorem dX10_trusted_35 : decode cX10_trusted 35 = .ok (.ifCond .ne 14, 3) := by decide +kernel
theorem dX10_trusted_38 : decode cX10_trusted 38 = .ok (.iload_n 2, 1) := by decide +kernel
theorem dX10_trusted_39 : decode cX10_trusted 39 = .ok (.ifCond .ne 8, 3) := by decide +kernel
theorem dX10_trusted_42 : decode cX10_trusted 42 = .ok (.bipush (-2), 2) := by decide +kernel
theorem dX10_trusted_44 : decode cX10_trusted 44 = .ok (.goto 4, 3) := by decide +kernel
theorem dX10_trusted_47 : decode cX10_trusted 47 = .ok (.iconst (-1), 1) := by decide +kernel
theorem dX10_trusted_48 : decode cX10_trusted 48 = .ok (.ireturn, 1) := by decide +kernel
theorem dX10_trusted_49 : decode cX10_trusted 49 = .ok (.aload 4, 2) := by decide +kernel
theorem dX10_trusted_51 : decode cX10_trusted 51 = .ok (.invokevirtual 219, 3) := by decide +kernel
theorem dX10_trusted_54 : decode cX10_trusted 54 = .ok (.iload_n 2, 1) := by decide +kernel
theorem dX10_trusted_55 : decode cX10_trusted 55 = .ok (.iload_n 3, 1) := by decide +kernel
theorem dX10_trusted_56 : decode cX10_trusted 56 = .ok (.invokevirtual 223, 3) := by decide +kernel
theorem dX10_trusted_59 : decode cX10_trusted 59 = .ok (.ireturn, 1) := by decide +kernel
theorem dX10_flash_0 : decode cX10_flash 0 = .ok (.iload_n 1, 1) := by decide +kernel
theorem dX10_flash_1 : decode cX10_flash 1 = .ok (.ifCond .lt 20, 3) := by decide +kernel
theorem dX10_flash_4 : decode cX10_flash 4 = .ok (.iload_n 1, 1) := by decide +kernel
theorem dX10_flash_5 : decode cX10_flash 5 = .ok (.bipush 26, 2) := by decide +kernel
theorem dX10_flash_7 : decode cX10_flash 7 = .ok (.if_icmp .ge 14, 3) := by decide +kernel
theorem dX10_flash_10 : decode cX10_flash 10 = .ok (.iload_n 2, 1) := by decide +kernel
theorem dX10_flash_11 : decode cX10_flash 11 = .ok (.ifCond .lt 10, 3) := by decide +kernel
theorem dX10_flash_14 : decode cX10_flash 14 = .ok (.iload_n 2, 1) := by decide +kernel
theorem dX10_flash_15 : decode cX10_flash 15 = .ok (.sipush 128, 3) := by decide +kernel
theorem dX10_flash_18 : decode cX10_flash 18 = .ok (.if_icmp .lt 5, 3) := by decide +kernel
theorem dX10_flash_21 : decode cX10_flash 21 = .ok (.iconst (-1), 1) := by decide +kernel
theorem dX10_flash_22 : decode cX10_flash 22 = .ok (.ireturn, 1) := by decide +kernel
theorem dX10_flash_23 : decode cX10_flash 23 = .ok (.aload_n 0, 1) := by decide +kernel
theorem dX10_flash_24 : decode cX10_flash 24 = .ok (.getfield 48, 3) := by decide +kernel
theorem dX10_flash_27 : decode cX10_flash 27 = .ok (.getfield 227, 3) := by decide +kernel
theorem dX10_flash_30 : decode cX10_flash 30 = .ok (.iload_n 1, 1) := by decide +kernel
theorem dX10_flash_31 : decode cX10_flash 31 = .ok (.sipush 128, 3) := by decide +kernel
theorem dX10_flash_34 : decode cX10_flash 34 = .ok (.imul, 1) := by decide +kernel
theorem dX10_flash_35 : decode cX10_flash 35 = .ok (.iload_n 2, 1) := by decide +kernel
theorem dX10_flash_36 : decode cX10_flash 36 = .ok (.iadd, 1) := by decide +kernel
theorem dX10_flash_37 : decode cX10_flash 37 = .ok (.invokevirtual 98, 3) := by decide +kernel
theorem dX10_flash_40 : decode cX10_flash 40 = .ok (.ireturn, 1) := by decide +kernel
theorem dX10_digest_0 : decode cX10_digest 0 = .ok (.aload_n 0, 1) := by decide +kernel
theorem dX10_digest_1 : decode cX10_digest 1 = .ok (.getfield 14, 3) := by decide +kernel
theorem dX10_digest_4 : decode cX10_digest 4 = .ok (.iconst 0, 1) := by decide +kernel
theorem dX10_digest_5 : decode cX10_digest 5 = .ok (.aload_n 0, 1) := by decide +kernel
theorem dX10_digest_6 : decode cX10_digest 6 = .ok (.getfield 14, 3) := by decide +kernel
theorem dX10_digest_9 : decode cX10_digest 9 = .ok (.invokevirtual 83, 3) := by decide +kernel
theorem dX10_digest_12 : decode cX10_digest 12 = .ok (.invokevirtual 230, 3) := by decide +kernel
theorem dX10_digest_15 : decode cX10_digest 15 = .ok (.lreturn, 1) := by decide +kernel
theorem dX10_unlessDown_0 : decode cX10_unlessDown 0 = .ok (.aload_n 0, 1) := by decide +kernel
theorem dX10_unlessDown_1 : decode cX10_unlessDown 1 = .ok (.getfield 48, 3) := by decide +kernel
theorem dX10_unlessDown_4 : decode cX10_unlessDown 4 = .ok (.invokevirtual 130, 3) := by decide +kernel
theorem dX10_unlessDown_7 : decode cX10_unlessDown 7 = .ok (.ifCond .ne 5, 3) := by decide +kernel
theorem dX10_unlessDown_10 : decode cX10_unlessDown 10 = .ok (.iload_n 1, 1) := by decide +kernel
theorem dX10_unlessDown_11 : decode cX10_unlessDown 11 = .ok (.ireturn, 1) := by decide +kernel
theorem dX10_unlessDown_12 : decode cX10_unlessDown 12 = .ok (.aload_n 0, 1) := by decide +kernel
theorem dX10_unlessDown_13 : decode cX10_unlessDown 13 = .ok (.getfield 79, 3) := by decide +kernel
theorem dX10_unlessDown_16 : decode cX10_unlessDown 16 = .ok (.invokevirtual 171, 3) := by decide +kernel
theorem dX10_unlessDown_19 : decode cX10_unlessDown 19 = .ok (.aload_n 0, 1) := by decide +kernel
theorem dX10_unlessDown_20 : decode cX10_unlessDown 20 = .ok (.getfield 70, 3) := by decide +kernel
theorem dX10_unlessDown_23 : decode cX10_unlessDown 23 = .ok (.invokevirtual 234, 3) := by decide +kernel
theorem dX10_unlessDown_26 : decode cX10_unlessDown 26 = .ok (.bipush (-3), 2) := by decide +kernel
theorem dX10_unlessDown_28 : decode cX10_unlessDown 28 = .ok (.ireturn, 1) := by decide +kernel
theorem dL_cell_0 : decode cL_cell 0 = .ok (.iload_n 1, 1) := by decide +kernel
theorem dL_cell_1 : decode cL_cell 1 = .ok (.aload_n 0, 1) := by decide +kernel
theorem dL_cell_2 : decode cL_cell 2 = .ok (.arraylength, 1) := by decide +kernel
theorem dL_cell_3 : decode cL_cell 3 = .ok (.if_icmp .ge 9, 3) := by decide +kernel
theorem dL_cell_6 : decode cL_cell 6 = .ok (.aload_n 0, 1) := by decide +kernel
theorem dL_cell_7 : decode cL_cell 7 = .ok (.iload_n 1, 1) := by decide +kernel
theorem dL_cell_8 : decode cL_cell 8 = .ok (.iaload, 1) := by decide +kernel
theorem dL_cell_9 : decode cL_cell 9 = .ok (.goto 4, 3) := by decide +kernel
theorem dL_cell_12 : decode cL_cell 12 = .ok (.iconst 0, 1) := by decide +kernel
theorem dL_cell_13 : decode cL_cell 13 = .ok (.ireturn, 1) := by decide +kernel
theorem dL_law_0 : decode cL_law 0 = .ok (.new 7, 3) := by decide +kernel
theorem dL_law_3 : decode cL_law 3 = .ok (.dup, 1) := by decide +kernel
theorem dL_law_4 : decode cL_law 4 = .ok (.aload_n 0, 1) := by decide +kernel
theorem dL_law_5 : decode cL_law 5 = .ok (.iconst 0, 1) := by decide +kernel
theorem dL_law_6 : decode cL_law 6 = .ok (.invokestatic 9, 3) := by decide +kernel
theorem dL_law_9 : decode cL_law 9 = .ok (.invokespecial 15, 3) := by decide +kernel
theorem dL_law_12 : decode cL_law 12 = .ok (.astore_n 1, 1) := by decide +kernel
theorem dL_law_13 : decode cL_law 13 = .ok (.new 18, 3) := by decide +kernel
theorem dL_law_16 : decode cL_law 16 = .ok (.dup, 1) := by decide +kernel
theorem dL_law_17 : decode cL_law 17 = .ok (.aload_n 0, 1) := by decide +kernel
theorem dL_law_18 : decode cL_law 18 = .ok (.iconst 0, 1) := by decide +kernel
theorem dL_law_19 : decode cL_law 19 = .ok (.invokestatic 9, 3) := by decide +kernel
theorem dL_law_22 : decode cL_law 22 = .ok (.invokespecial 20, 3) := by decide +kernel
theorem dL_law_25 : decode cL_law 25 = .ok (.astore_n 2, 1) := by decide +kernel
theorem dL_law_26 : decode cL_law 26 = .ok (.iconst 1, 1) := by decide +kernel
theorem dL_law_27 : decode cL_law 27 = .ok (.istore_n 3, 1) := by decide +kernel
theorem dL_law_28 : decode cL_law 28 = .ok (.iload_n 3, 1) := by decide +kernel
theorem dL_law_29 : decode cL_law 29 = .ok (.aload_n 0, 1) := by decide +kernel
theorem dL_law_30 : decode cL_law 30 = .ok (.arraylength, 1) := by decide +kernel
theorem dL_law_31 : decode cL_law 31 = .ok (.bipush 6, 2) := by decide +kernel
theorem dL_law_33 : decode cL_law 33 = .ok (.isub, 1) := by decide +kernel
theorem dL_law_34 : decode cL_law 34 = .ok (.if_icmp .gt 756, 3) := by decide +kernel
theorem dL_law_37 : decode cL_law 37 = .ok (.aload_n 0, 1) := by decide +kernel
theorem dL_law_38 : decode cL_law 38 = .ok (.iload_n 3, 1) := by decide +kernel
theorem dL_law_39 : decode cL_law 39 = .ok (.iaload, 1) := by decide +kernel
theorem dL_law_40 : decode cL_law 40 = .ok (.bipush 31, 2) := by decide +kernel
theorem dL_law_42 : decode cL_law 42 = .ok (.iand, 1) := by decide +kernel
theorem dL_law_43 : decode cL_law 43 = .ok (.tableswitch 741 0 22 #[105, 168, 191, 214, 257, 300, 313, 356, 379, 392, 425, 458, 481, 494, 507, 530, 543, 576, 589, 628, 651, 694, 727], 105) := by decide +kernel
theorem dL_law_148 : decode cL_law 148 = .ok (.aload_n 1, 1) := by decide +kernel
theorem dL_law_149 : decode cL_law 149 = .ok (.aload_n 0, 1) := by decide +kernel
theorem dL_law_150 : decode cL_law 150 = .ok (.iload_n 3, 1) := by decide +kernel
theorem dL_law_151 : decode cL_law 151 = .ok (.iconst 1, 1) := by decide +kernel
theorem dL_law_152 : decode cL_law 152 = .ok (.iadd, 1) := by decide +kernel
theorem dL_law_153 : decode cL_law 153 = .ok (.iaload, 1) := by decide +kernel
theorem dL_law_154 : decode cL_law 154 = .ok (.aload_n 0, 1) := by decide +kernel
theorem dL_law_155 : decode cL_law 155 = .ok (.iload_n 3, 1) := by decide +kernel
theorem dL_law_156 : decode cL_law 156 = .ok (.iconst 2, 1) := by decide +kernel
theorem dL_law_157 : decode cL_law 157 = .ok (.iadd, 1) := by decide +kernel
theorem dL_law_158 : decode cL_law 158 = .ok (.iaload, 1) := by decide +kernel
theorem dL_law_159 : decode cL_law 159 = .ok (.aload_n 0, 1) := by decide +kernel
theorem dL_law_160 : decode cL_law 160 = .ok (.iload_n 3, 1) := by decide +kernel
theorem dL_law_161 : decode cL_law 161 = .ok (.iconst 3, 1) := by decide +kernel
theorem dL_law_162 : decode cL_law 162 = .ok (.iadd, 1) := by decide +kernel
theorem dL_law_163 : decode cL_law 163 = .ok (.iaload, 1) := by decide +kernel
theorem dL_law_164 : decode cL_law 164 = .ok (.aload_n 0, 1) := by decide +kernel
theorem dL_law_165 : decode cL_law 165 = .ok (.iload_n 3, 1) := by decide +kernel
theorem dL_law_166 : decode cL_law 166 = .ok (.iconst 4, 1) := by decide +kernel
theorem dL_law_167 : decode cL_law 167 = .ok (.iadd, 1) := by decide +kernel
theorem dL_law_168 : decode cL_law 168 = .ok (.iaload, 1) := by decide +kernel
theorem dL_law_169 : decode cL_law 169 = .ok (.aload_n 0, 1) := by decide +kernel
theorem dL_law_170 : decode cL_law 170 = .ok (.iload_n 3, 1) := by decide +kernel
theorem dL_law_171 : decode cL_law 171 = .ok (.iconst 5, 1) := by decide +kernel
theorem dL_law_172 : decode cL_law 172 = .ok (.iadd, 1) := by decide +kernel
theorem dL_law_173 : decode cL_law 173 = .ok (.iaload, 1) := by decide +kernel
theorem dL_law_174 : decode cL_law 174 = .ok (.invokevirtual 21, 3) := by decide +kernel
theorem dL_law_177 : decode cL_law 177 = .ok (.aload_n 2, 1) := by decide +kernel
theorem dL_law_178 : decode cL_law 178 = .ok (.aload_n 0, 1) := by decide +kernel
theorem dL_law_179 : decode cL_law 179 = .ok (.iload_n 3, 1) := by decide +kernel
theorem dL_law_180 : decode cL_law 180 = .ok (.iconst 1, 1) := by decide +kernel
theorem dL_law_181 : decode cL_law 181 = .ok (.iadd, 1) := by decide +kernel
theorem dL_law_182 : decode cL_law 182 = .ok (.iaload, 1) := by decide +kernel
theorem dL_law_183 : decode cL_law 183 = .ok (.aload_n 0, 1) := by decide +kernel
theorem dL_law_184 : decode cL_law 184 = .ok (.iload_n 3, 1) := by decide +kernel
theorem dL_law_185 : decode cL_law 185 = .ok (.iconst 2, 1) := by decide +kernel
theorem dL_law_186 : decode cL_law 186 = .ok (.iadd, 1) := by decide +kernel
theorem dL_law_187 : decode cL_law 187 = .ok (.iaload, 1) := by decide +kernel
theorem dL_law_188 : decode cL_law 188 = .ok (.aload_n 0, 1) := by decide +kernel
theorem dL_law_189 : decode cL_law 189 = .ok (.iload_n 3, 1) := by decide +kernel
theorem dL_law_190 : decode cL_law 190 = .ok (.iconst 3, 1) := by decide +kernel
theorem dL_law_191 : decode cL_law 191 = .ok (.iadd, 1) := by decide +kernel
theorem dL_law_192 : decode cL_law 192 = .ok (.iaload, 1) := by decide +kernel
theorem dL_law_193 : decode cL_law 193 = .ok (.aload_n 0, 1) := by decide +kernel
theorem dL_law_194 : decode cL_law 194 = .ok (.iload_n 3, 1) := by decide +kernel
theorem dL_law_195 : decode cL_law 195 = .ok (.iconst 4, 1) := by decide +kernel
theorem dL_law_196 : decode cL_law 196 = .ok (.iadd, 1) := by decide +kernel
theorem dL_law_197 : decode cL_law 197 = .ok (.iaload, 1) := by decide +kernel
theorem dL_law_198 : decode cL_law 198 = .ok (.aload_n 0, 1) := by decide +kernel
theorem dL_law_199 : decode cL_law 199 = .ok (.iload_n 3, 1) := by decide +kernel
theorem dL_law_200 : decode cL_law 200 = .ok (.iconst 5, 1) := by decide +kernel
theorem dL_law_201 : decode cL_law 201 = .ok (.iadd, 1) := by decide +kernel
theorem dL_law_202 : decode cL_law 202 = .ok (.iaload, 1) := by decide +kernel
theorem dL_law_203 : decode cL_law 203 = .ok (.invokevirtual 25, 3) := by decide +kernel
theorem dL_law_206 : decode cL_law 206 = .ok (.if_icmp .eq 578, 3) := by decide +kernel
theorem dL_law_209 : decode cL_law 209 = .ok (.iconst 0, 1) := by decide +kernel
theorem dL_law_210 : decode cL_law 210 = .ok (.ireturn, 1) := by decide +kernel
theorem dL_law_211 : decode cL_law 211 = .ok (.aload_n 1, 1) := by decide +kernel
theorem dL_law_212 : decode cL_law 212 = .ok (.aload_n 0, 1) := by decide +kernel
theorem dL_law_213 : decode cL_law 213 = .ok (.iload_n 3, 1) := by decide +kernel
theorem dL_law_214 : decode cL_law 214 = .ok (.iconst 1, 1) := by decide +kernel
theorem dL_law_215 : decode cL_law 215 = .ok (.iadd, 1) := by decide +kernel
theorem dL_law_216 : decode cL_law 216 = .ok (.iaload, 1) := by decide +kernel
theorem dL_law_217 : decode cL_law 217 = .ok (.invokevirtual 26, 3) := by decide +kernel
theorem dL_law_220 : decode cL_law 220 = .ok (.aload_n 2, 1) := by decide +kernel
theorem dL_law_221 : decode cL_law 221 = .ok (.aload_n 0, 1) := by decide +kernel
theorem dL_law_222 : decode cL_law 222 = .ok (.iload_n 3, 1) := by decide +kernel
theorem dL_law_223 : decode cL_law 223 = .ok (.iconst 1, 1) := by decide +kernel
theorem dL_law_224 : decode cL_law 224 = .ok (.iadd, 1) := by decide +kernel
theorem dL_law_225 : decode cL_law 225 = .ok (.iaload, 1) := by decide +kernel
theorem dL_law_226 : decode cL_law 226 = .ok (.invokevirtual 30, 3) := by decide +kernel
theorem dL_law_229 : decode cL_law 229 = .ok (.if_icmp .eq 555, 3) := by decide +kernel
theorem dL_law_232 : decode cL_law 232 = .ok (.iconst 0, 1) := by decide +kernel
theorem dL_law_233 : decode cL_law 233 = .ok (.ireturn, 1) := by decide +kernel
theorem dL_law_234 : decode cL_law 234 = .ok (.aload_n 1, 1) := by decide +kernel
theorem dL_law_235 : decode cL_law 235 = .ok (.aload_n 0, 1) := by decide +kernel
theorem dL_law_236 : decode cL_law 236 = .ok (.iload_n 3, 1) := by decide +kernel
theorem dL_law_237 : decode cL_law 237 = .ok (.iconst 1, 1) := by decide +kernel
theorem dL_law_238 : decode cL_law 238 = .ok (.iadd, 1) := by decide +kernel
theorem dL_law_239 : decode cL_law 239 = .ok (.iaload, 1) := by decide +kernel
theorem dL_law_240 : decode cL_law 240 = .ok (.invokevirtual 31, 3) := by decide +kernel
theorem dL_law_243 : decode cL_law 243 = .ok (.aload_n 2, 1) := by decide +kernel
theorem dL_law_244 : decode cL_law 244 = .ok (.aload_n 0, 1) := by decide +kernel
theorem dL_law_245 : decode cL_law 245 = .ok (.iload_n 3, 1) := by decide +kernel
theorem dL_law_246 : decode cL_law 246 = .ok (.iconst 1, 1) := by decide +kernel
theorem dL_law_247 : decode cL_law 247 = .ok (.iadd, 1) := by decide +kernel
theorem dL_law_248 : decode cL_law 248 = .ok (.iaload, 1) := by decide +kernel
theorem dL_law_249 : decode cL_law 249 = .ok (.invokevirtual 34, 3) := by decide +kernel
theorem dL_law_252 : decode cL_law 252 = .ok (.if_icmp .eq 532, 3) := by decide +kernel
theorem dL_law_255 : decode cL_law 255 = .ok (.iconst 0, 1) := by decide +kernel
theorem dL_law_256 : decode cL_law 256 = .ok (.ireturn, 1) := by decide +kernel
theorem dL_law_257 : decode cL_law 257 = .ok (.aload_n 1, 1) := by decide +kernel
theorem dL_law_258 : decode cL_law 258 = .ok (.aload_n 0, 1) := by decide +kernel
theorem dL_law_259 : decode cL_law 259 = .ok (.iload_n 3, 1) := by decide +kernel
theorem dL_law_260 : decode cL_law 260 = .ok (.iconst 1, 1) := by decide +kernel
theorem dL_law_261 : decode cL_law 261 = .ok (.iadd, 1) := by decide +kernel
theorem dL_law_262 : decode cL_law 262 = .ok (.iaload, 1) := by decide +kernel
theorem dL_law_263 : decode cL_law 263 = .ok (.aload_n 0, 1) := by decide +kernel
theorem dL_law_264 : decode cL_law 264 = .ok (.iload_n 3, 1) := by decide +kernel
theorem dL_law_265 : decode cL_law 265 = .ok (.iconst 2, 1) := by decide +kernel
theorem dL_law_266 : decode cL_law 266 = .ok (.iadd, 1) := by decide +kernel
theorem dL_law_267 : decode cL_law 267 = .ok (.iaload, 1) := by decide +kernel
theorem dL_law_268 : decode cL_law 268 = .ok (.aload_n 0, 1) := by decide +kernel
theorem dL_law_269 : decode cL_law 269 = .ok (.iload_n 3, 1) := by decide +kernel
theorem dL_law_270 : decode cL_law 270 = .ok (.iconst 3, 1) := by decide +kernel
theorem dL_law_271 : decode cL_law 271 = .ok (.iadd, 1) := by decide +kernel
theorem dL_law_272 : decode cL_law 272 = .ok (.iaload, 1) := by decide +kernel
theorem dL_law_273 : decode cL_law 273 = .ok (.invokevirtual 35, 3) := by decide +kernel
theorem dL_law_276 : decode cL_law 276 = .ok (.aload_n 2, 1) := by decide +kernel
theorem dL_law_277 : decode cL_law 277 = .ok (.aload_n 0, 1) := by decide +kernel
theorem dL_law_278 : decode cL_law 278 = .ok (.iload_n 3, 1) := by decide +kernel
theorem dL_law_279 : decode cL_law 279 = .ok (.iconst 1, 1) := by decide +kernel
theorem dL_law_280 : decode cL_law 280 = .ok (.iadd, 1) := by decide +kernel
theorem dL_law_281 : decode cL_law 281 = .ok (.iaload, 1) := by decide +kernel
theorem dL_law_282 : decode cL_law 282 = .ok (.aload_n 0, 1) := by decide +kernel
theorem dL_law_283 : decode cL_law 283 = .ok (.iload_n 3, 1) := by decide +kernel
theorem dL_law_284 : decode cL_law 284 = .ok (.iconst 2, 1) := by decide +kernel
theorem dL_law_285 : decode cL_law 285 = .ok (.iadd, 1) := by decide +kernel
theorem dL_law_286 : decode cL_law 286 = .ok (.iaload, 1) := by decide +kernel
theorem dL_law_287 : decode cL_law 287 = .ok (.aload_n 0, 1) := by decide +kernel
theorem dL_law_288 : decode cL_law 288 = .ok (.iload_n 3, 1) := by decide +kernel
theorem dL_law_289 : decode cL_law 289 = .ok (.iconst 3, 1) := by decide +kernel
theorem dL_law_290 : decode cL_law 290 = .ok (.iadd, 1) := by decide +kernel
theorem dL_law_291 : decode cL_law 291 = .ok (.iaload, 1) := by decide +kernel
theorem dL_law_292 : decode cL_law 292 = .ok (.invokevirtual 39, 3) := by decide +kernel
theorem dL_law_295 : decode cL_law 295 = .ok (.if_icmp .eq 489, 3) := by decide +kernel
theorem dL_law_298 : decode cL_law 298 = .ok (.iconst 0, 1) := by decide +kernel
theorem dL_law_299 : decode cL_law 299 = .ok (.ireturn, 1) := by decide +kernel
theorem dL_law_300 : decode cL_law 300 = .ok (.aload_n 1, 1) := by decide +kernel
theorem dL_law_301 : decode cL_law 301 = .ok (.aload_n 0, 1) := by decide +kernel
theorem dL_law_302 : decode cL_law 302 = .ok (.iload_n 3, 1) := by decide +kernel
theorem dL_law_303 : decode cL_law 303 = .ok (.iconst 1, 1) := by decide +kernel
theorem dL_law_304 : decode cL_law 304 = .ok (.iadd, 1) := by decide +kernel
theorem dL_law_305 : decode cL_law 305 = .ok (.iaload, 1) := by decide +kernel
theorem dL_law_306 : decode cL_law 306 = .ok (.aload_n 0, 1) := by decide +kernel
theorem dL_law_307 : decode cL_law 307 = .ok (.iload_n 3, 1) := by decide +kernel
theorem dL_law_308 : decode cL_law 308 = .ok (.iconst 2, 1) := by decide +kernel
theorem dL_law_309 : decode cL_law 309 = .ok (.iadd, 1) := by decide +kernel
theorem dL_law_310 : decode cL_law 310 = .ok (.iaload, 1) := by decide +kernel
theorem dL_law_311 : decode cL_law 311 = .ok (.aload_n 0, 1) := by decide +kernel
theorem dL_law_312 : decode cL_law 312 = .ok (.iload_n 3, 1) := by decide +kernel
theorem dL_law_313 : decode cL_law 313 = .ok (.iconst 3, 1) := by decide +kernel
theorem dL_law_314 : decode cL_law 314 = .ok (.iadd, 1) := by decide +kernel
theorem dL_law_315 : decode cL_law 315 = .ok (.iaload, 1) := by decide +kernel
theorem dL_law_316 : decode cL_law 316 = .ok (.invokevirtual 40, 3) := by decide +kernel
theorem dL_law_319 : decode cL_law 319 = .ok (.aload_n 2, 1) := by decide +kernel
theorem dL_law_320 : decode cL_law 320 = .ok (.aload_n 0, 1) := by decide +kernel
theorem dL_law_321 : decode cL_law 321 = .ok (.iload_n 3, 1) := by decide +kernel
theorem dL_law_322 : decode cL_law 322 = .ok (.iconst 1, 1) := by decide +kernel
theorem dL_law_323 : decode cL_law 323 = .ok (.iadd, 1) := by decide +kernel
theorem dL_law_324 : decode cL_law 324 = .ok (.iaload, 1) := by decide +kernel
theorem dL_law_325 : decode cL_law 325 = .ok (.aload_n 0, 1) := by decide +kernel
theorem dL_law_326 : decode cL_law 326 = .ok (.iload_n 3, 1) := by decide +kernel
theorem dL_law_327 : decode cL_law 327 = .ok (.iconst 2, 1) := by decide +kernel
theorem dL_law_328 : decode cL_law 328 = .ok (.iadd, 1) := by decide +kernel
theorem dL_law_329 : decode cL_law 329 = .ok (.iaload, 1) := by decide +kernel
theorem dL_law_330 : decode cL_law 330 = .ok (.aload_n 0, 1) := by decide +kernel
theorem dL_law_331 : decode cL_law 331 = .ok (.iload_n 3, 1) := by decide +kernel
theorem dL_law_332 : decode cL_law 332 = .ok (.iconst 3, 1) := by decide +kernel
theorem dL_law_333 : decode cL_law 333 = .ok (.iadd, 1) := by decide +kernel
theorem dL_law_334 : decode cL_law 334 = .ok (.iaload, 1) := by decide +kernel
theorem dL_law_335 : decode cL_law 335 = .ok (.invokevirtual 43, 3) := by decide +kernel
theorem dL_law_338 : decode cL_law 338 = .ok (.if_icmp .eq 446, 3) := by decide +kernel
theorem dL_law_341 : decode cL_law 341 = .ok (.iconst 0, 1) := by decide +kernel
theorem dL_law_342 : decode cL_law 342 = .ok (.ireturn, 1) := by decide +kernel
theorem dL_law_343 : decode cL_law 343 = .ok (.aload_n 1, 1) := by decide +kernel
theorem dL_law_344 : decode cL_law 344 = .ok (.invokevirtual 44, 3) := by decide +kernel
theorem dL_law_347 : decode cL_law 347 = .ok (.aload_n 2, 1) := by decide +kernel
theorem dL_law_348 : decode cL_law 348 = .ok (.invokevirtual 48, 3) := by decide +kernel
theorem dL_law_351 : decode cL_law 351 = .ok (.if_icmp .eq 433, 3) := by decide +kernel
theorem dL_law_354 : decode cL_law 354 = .ok (.iconst 0, 1) := by decide +kernel
theorem dL_law_355 : decode cL_law 355 = .ok (.ireturn, 1) := by decide +kernel
theorem dL_law_356 : decode cL_law 356 = .ok (.aload_n 1, 1) := by decide +kernel
theorem dL_law_357 : decode cL_law 357 = .ok (.aload_n 0, 1) := by decide +kernel
theorem dL_law_358 : decode cL_law 358 = .ok (.iload_n 3, 1) := by decide +kernel
theorem dL_law_359 : decode cL_law 359 = .ok (.iconst 1, 1) := by decide +kernel
theorem dL_law_360 : decode cL_law 360 = .ok (.iadd, 1) := by decide +kernel
theorem dL_law_361 : decode cL_law 361 = .ok (.iaload, 1) := by decide +kernel
theorem dL_law_362 : decode cL_law 362 = .ok (.aload_n 0, 1) := by decide +kernel
theorem dL_law_363 : decode cL_law 363 = .ok (.iload_n 3, 1) := by decide +kernel
theorem dL_law_364 : decode cL_law 364 = .ok (.iconst 2, 1) := by decide +kernel
theorem dL_law_365 : decode cL_law 365 = .ok (.iadd, 1) := by decide +kernel
theorem dL_law_366 : decode cL_law 366 = .ok (.iaload, 1) := by decide +kernel
theorem dL_law_367 : decode cL_law 367 = .ok (.aload_n 0, 1) := by decide +kernel
theorem dL_law_368 : decode cL_law 368 = .ok (.iload_n 3, 1) := by decide +kernel
theorem dL_law_369 : decode cL_law 369 = .ok (.iconst 3, 1) := by decide +kernel
theorem dL_law_370 : decode cL_law 370 = .ok (.iadd, 1) := by decide +kernel
theorem dL_law_371 : decode cL_law 371 = .ok (.iaload, 1) := by decide +kernel
theorem dL_law_372 : decode cL_law 372 = .ok (.invokevirtual 49, 3) := by decide +kernel
theorem dL_law_375 : decode cL_law 375 = .ok (.aload_n 2, 1) := by decide +kernel
theorem dL_law_376 : decode cL_law 376 = .ok (.aload_n 0, 1) := by decide +kernel
theorem dL_law_377 : decode cL_law 377 = .ok (.iload_n 3, 1) := by decide +kernel
theorem dL_law_378 : decode cL_law 378 = .ok (.iconst 1, 1) := by decide +kernel
theorem dL_law_379 : decode cL_law 379 = .ok (.iadd, 1) := by decide +kernel
theorem dL_law_380 : decode cL_law 380 = .ok (.iaload, 1) := by decide +kernel
theorem dL_law_381 : decode cL_law 381 = .ok (.aload_n 0, 1) := by decide +kernel
theorem dL_law_382 : decode cL_law 382 = .ok (.iload_n 3, 1) := by decide +kernel
theorem dL_law_383 : decode cL_law 383 = .ok (.iconst 2, 1) := by decide +kernel
theorem dL_law_384 : decode cL_law 384 = .ok (.iadd, 1) := by decide +kernel
theorem dL_law_385 : decode cL_law 385 = .ok (.iaload, 1) := by decide +kernel
theorem dL_law_386 : decode cL_law 386 = .ok (.aload_n 0, 1) := by decide +kernel
theorem dL_law_387 : decode cL_law 387 = .ok (.iload_n 3, 1) := by decide +kernel
theorem dL_law_388 : decode cL_law 388 = .ok (.iconst 3, 1) := by decide +kernel
theorem dL_law_389 : decode cL_law 389 = .ok (.iadd, 1) := by decide +kernel
theorem dL_law_390 : decode cL_law 390 = .ok (.iaload, 1) := by decide +kernel
theorem dL_law_391 : decode cL_law 391 = .ok (.invokevirtual 52, 3) := by decide +kernel
theorem dL_law_394 : decode cL_law 394 = .ok (.if_icmp .eq 390, 3) := by decide +kernel
theorem dL_law_397 : decode cL_law 397 = .ok (.iconst 0, 1) := by decide +kernel
theorem dL_law_398 : decode cL_law 398 = .ok (.ireturn, 1) := by decide +kernel
theorem dL_law_399 : decode cL_law 399 = .ok (.aload_n 1, 1) := by decide +kernel
theorem dL_law_400 : decode cL_law 400 = .ok (.aload_n 0, 1) := by decide +kernel
theorem dL_law_401 : decode cL_law 401 = .ok (.iload_n 3, 1) := by decide +kernel
theorem dL_law_402 : decode cL_law 402 = .ok (.iconst 1, 1) := by decide +kernel
theorem dL_law_403 : decode cL_law 403 = .ok (.iadd, 1) := by decide +kernel
theorem dL_law_404 : decode cL_law 404 = .ok (.iaload, 1) := by decide +kernel
theorem dL_law_405 : decode cL_law 405 = .ok (.invokevirtual 53, 3) := by decide +kernel
theorem dL_law_408 : decode cL_law 408 = .ok (.aload_n 2, 1) := by decide +kernel
theorem dL_law_409 : decode cL_law 409 = .ok (.aload_n 0, 1) := by decide +kernel
theorem dL_law_410 : decode cL_law 410 = .ok (.iload_n 3, 1) := by decide +kernel
theorem dL_law_411 : decode cL_law 411 = .ok (.iconst 1, 1) := by decide +kernel
theorem dL_law_412 : decode cL_law 412 = .ok (.iadd, 1) := by decide +kernel
theorem dL_law_413 : decode cL_law 413 = .ok (.iaload, 1) := by decide +kernel
theorem dL_law_414 : decode cL_law 414 = .ok (.invokevirtual 56, 3) := by decide +kernel
theorem dL_law_417 : decode cL_law 417 = .ok (.if_icmp .eq 367, 3) := by decide +kernel
theorem dL_law_420 : decode cL_law 420 = .ok (.iconst 0, 1) := by decide +kernel
theorem dL_law_421 : decode cL_law 421 = .ok (.ireturn, 1) := by decide +kernel
theorem dL_law_422 : decode cL_law 422 = .ok (.aload_n 1, 1) := by decide +kernel
theorem dL_law_423 : decode cL_law 423 = .ok (.invokevirtual 57, 3) := by decide +kernel
theorem dL_law_426 : decode cL_law 426 = .ok (.aload_n 2, 1) := by decide +kernel
theorem dL_law_427 : decode cL_law 427 = .ok (.invokevirtual 60, 3) := by decide +kernel
theorem dL_law_430 : decode cL_law 430 = .ok (.if_icmp .eq 354, 3) := by decide +kernel
theorem dL_law_433 : decode cL_law 433 = .ok (.iconst 0, 1) := by decide +kernel
theorem dL_law_434 : decode cL_law 434 = .ok (.ireturn, 1) := by decide +kernel
theorem dL_law_435 : decode cL_law 435 = .ok (.aload_n 1, 1) := by decide +kernel
theorem dL_law_436 : decode cL_law 436 = .ok (.aload_n 0, 1) := by decide +kernel
theorem dL_law_437 : decode cL_law 437 = .ok (.iload_n 3, 1) := by decide +kernel
theorem dL_law_438 : decode cL_law 438 = .ok (.iconst 1, 1) := by decide +kernel
theorem dL_law_439 : decode cL_law 439 = .ok (.iadd, 1) := by decide +kernel
theorem dL_law_440 : decode cL_law 440 = .ok (.iaload, 1) := by decide +kernel
theorem dL_law_441 : decode cL_law 441 = .ok (.aload_n 0, 1) := by decide +kernel
theorem dL_law_442 : decode cL_law 442 = .ok (.iload_n 3, 1) := by decide +kernel
theorem dL_law_443 : decode cL_law 443 = .ok (.iconst 2, 1) := by decide +kernel
theorem dL_law_444 : decode cL_law 444 = .ok (.iadd, 1) := by decide +kernel
theorem dL_law_445 : decode cL_law 445 = .ok (.iaload, 1) := by decide +kernel
theorem dL_law_446 : decode cL_law 446 = .ok (.invokevirtual 61, 3) := by decide +kernel
theorem dL_law_449 : decode cL_law 449 = .ok (.aload_n 2, 1) := by decide +kernel
theorem dL_law_450 : decode cL_law 450 = .ok (.aload_n 0, 1) := by decide +kernel
theorem dL_law_451 : decode cL_law 451 = .ok (.iload_n 3, 1) := by decide +kernel
theorem dL_law_452 : decode cL_law 452 = .ok (.iconst 1, 1) := by decide +kernel
theorem dL_law_453 : decode cL_law 453 = .ok (.iadd, 1) := by decide +kernel
theorem dL_law_454 : decode cL_law 454 = .ok (.iaload, 1) := by decide +kernel
theorem dL_law_455 : decode cL_law 455 = .ok (.aload_n 0, 1) := by decide +kernel
theorem dL_law_456 : decode cL_law 456 = .ok (.iload_n 3, 1) := by decide +kernel
theorem dL_law_457 : decode cL_law 457 = .ok (.iconst 2, 1) := by decide +kernel
theorem dL_law_458 : decode cL_law 458 = .ok (.iadd, 1) := by decide +kernel
theorem dL_law_459 : decode cL_law 459 = .ok (.iaload, 1) := by decide +kernel
theorem dL_law_460 : decode cL_law 460 = .ok (.invokevirtual 65, 3) := by decide +kernel
theorem dL_law_463 : decode cL_law 463 = .ok (.if_icmp .eq 321, 3) := by decide +kernel
theorem dL_law_466 : decode cL_law 466 = .ok (.iconst 0, 1) := by decide +kernel
theorem dL_law_467 : decode cL_law 467 = .ok (.ireturn, 1) := by decide +kernel
theorem dL_law_468 : decode cL_law 468 = .ok (.aload_n 1, 1) := by decide +kernel
theorem dL_law_469 : decode cL_law 469 = .ok (.aload_n 0, 1) := by decide +kernel
theorem dL_law_470 : decode cL_law 470 = .ok (.iload_n 3, 1) := by decide +kernel
theorem dL_law_471 : decode cL_law 471 = .ok (.iconst 1, 1) := by decide +kernel
theorem dL_law_472 : decode cL_law 472 = .ok (.iadd, 1) := by decide +kernel
theorem dL_law_473 : decode cL_law 473 = .ok (.iaload, 1) := by decide +kernel
theorem dL_law_474 : decode cL_law 474 = .ok (.aload_n 0, 1) := by decide +kernel
theorem dL_law_475 : decode cL_law 475 = .ok (.iload_n 3, 1) := by decide +kernel
theorem dL_law_476 : decode cL_law 476 = .ok (.iconst 2, 1) := by decide +kernel
theorem dL_law_477 : decode cL_law 477 = .ok (.iadd, 1) := by decide +kernel
theorem dL_law_478 : decode cL_law 478 = .ok (.iaload, 1) := by decide +kernel
theorem dL_law_479 : decode cL_law 479 = .ok (.invokevirtual 66, 3) := by decide +kernel
theorem dL_law_482 : decode cL_law 482 = .ok (.aload_n 2, 1) := by decide +kernel
theorem dL_law_483 : decode cL_law 483 = .ok (.aload_n 0, 1) := by decide +kernel
theorem dL_law_484 : decode cL_law 484 = .ok (.iload_n 3, 1) := by decide +kernel
theorem dL_law_485 : decode cL_law 485 = .ok (.iconst 1, 1) := by decide +kernel
theorem dL_law_486 : decode cL_law 486 = .ok (.iadd, 1) := by decide +kernel
theorem dL_law_487 : decode cL_law 487 = .ok (.iaload, 1) := by decide +kernel
theorem dL_law_488 : decode cL_law 488 = .ok (.aload_n 0, 1) := by decide +kernel
theorem dL_law_489 : decode cL_law 489 = .ok (.iload_n 3, 1) := by decide +kernel
theorem dL_law_490 : decode cL_law 490 = .ok (.iconst 2, 1) := by decide +kernel
theorem dL_law_491 : decode cL_law 491 = .ok (.iadd, 1) := by decide +kernel
theorem dL_law_492 : decode cL_law 492 = .ok (.iaload, 1) := by decide +kernel
theorem dL_law_493 : decode cL_law 493 = .ok (.invokevirtual 69, 3) := by decide +kernel
theorem dL_law_496 : decode cL_law 496 = .ok (.if_icmp .eq 288, 3) := by decide +kernel
theorem dL_law_499 : decode cL_law 499 = .ok (.iconst 0, 1) := by decide +kernel
theorem dL_law_500 : decode cL_law 500 = .ok (.ireturn, 1) := by decide +kernel
theorem dL_law_501 : decode cL_law 501 = .ok (.aload_n 1, 1) := by decide +kernel
theorem dL_law_502 : decode cL_law 502 = .ok (.aload_n 0, 1) := by decide +kernel
theorem dL_law_503 : decode cL_law 503 = .ok (.iload_n 3, 1) := by decide +kernel
theorem dL_law_504 : decode cL_law 504 = .ok (.iconst 1, 1) := by decide +kernel
theorem dL_law_505 : decode cL_law 505 = .ok (.iadd, 1) := by decide +kernel
theorem dL_law_506 : decode cL_law 506 = .ok (.iaload, 1) := by decide +kernel
theorem dL_law_507 : decode cL_law 507 = .ok (.invokevirtual 70, 3) := by decide +kernel
theorem dL_law_510 : decode cL_law 510 = .ok (.aload_n 2, 1) := by decide +kernel
theorem dL_law_511 : decode cL_law 511 = .ok (.aload_n 0, 1) := by decide +kernel
theorem dL_law_512 : decode cL_law 512 = .ok (.iload_n 3, 1) := by decide +kernel
theorem dL_law_513 : decode cL_law 513 = .ok (.iconst 1, 1) := by decide +kernel
theorem dL_law_514 : decode cL_law 514 = .ok (.iadd, 1) := by decide +kernel
theorem dL_law_515 : decode cL_law 515 = .ok (.iaload, 1) := by decide +kernel
theorem dL_law_516 : decode cL_law 516 = .ok (.invokevirtual 73, 3) := by decide +kernel
theorem dL_law_519 : decode cL_law 519 = .ok (.if_icmp .eq 265, 3) := by decide +kernel
theorem dL_law_522 : decode cL_law 522 = .ok (.iconst 0, 1) := by decide +kernel
theorem dL_law_523 : decode cL_law 523 = .ok (.ireturn, 1) := by decide +kernel
theorem dL_law_524 : decode cL_law 524 = .ok (.aload_n 1, 1) := by decide +kernel
theorem dL_law_525 : decode cL_law 525 = .ok (.invokevirtual 74, 3) := by decide +kernel
theorem dL_law_528 : decode cL_law 528 = .ok (.aload_n 2, 1) := by decide +kernel
theorem dL_law_529 : decode cL_law 529 = .ok (.invokevirtual 77, 3) := by decide +kernel
theorem dL_law_532 : decode cL_law 532 = .ok (.if_icmp .eq 252, 3) := by decide +kernel
theorem dL_law_535 : decode cL_law 535 = .ok (.iconst 0, 1) := by decide +kernel
theorem dL_law_536 : decode cL_law 536 = .ok (.ireturn, 1) := by decide +kernel
theorem dL_law_537 : decode cL_law 537 = .ok (.aload_n 1, 1) := by decide +kernel
theorem dL_law_538 : decode cL_law 538 = .ok (.invokevirtual 78, 3) := by decide +kernel
theorem dL_law_541 : decode cL_law 541 = .ok (.aload_n 2, 1) := by decide +kernel
theorem dL_law_542 : decode cL_law 542 = .ok (.invokevirtual 81, 3) := by decide +kernel
theorem dL_law_545 : decode cL_law 545 = .ok (.if_icmp .eq 239, 3) := by decide +kernel
theorem dL_law_548 : decode cL_law 548 = .ok (.iconst 0, 1) := by decide +kernel
theorem dL_law_549 : decode cL_law 549 = .ok (.ireturn, 1) := by decide +kernel
theorem dL_law_550 : decode cL_law 550 = .ok (.aload_n 1, 1) := by decide +kernel
theorem dL_law_551 : decode cL_law 551 = .ok (.aload_n 0, 1) := by decide +kernel
theorem dL_law_552 : decode cL_law 552 = .ok (.iload_n 3, 1) := by decide +kernel
theorem dL_law_553 : decode cL_law 553 = .ok (.iconst 1, 1) := by decide +kernel
theorem dL_law_554 : decode cL_law 554 = .ok (.iadd, 1) := by decide +kernel
theorem dL_law_555 : decode cL_law 555 = .ok (.iaload, 1) := by decide +kernel
theorem dL_law_556 : decode cL_law 556 = .ok (.invokevirtual 82, 3) := by decide +kernel
theorem dL_law_559 : decode cL_law 559 = .ok (.aload_n 2, 1) := by decide +kernel
theorem dL_law_560 : decode cL_law 560 = .ok (.aload_n 0, 1) := by decide +kernel
theorem dL_law_561 : decode cL_law 561 = .ok (.iload_n 3, 1) := by decide +kernel
theorem dL_law_562 : decode cL_law 562 = .ok (.iconst 1, 1) := by decide +kernel
theorem dL_law_563 : decode cL_law 563 = .ok (.iadd, 1) := by decide +kernel
theorem dL_law_564 : decode cL_law 564 = .ok (.iaload, 1) := by decide +kernel
theorem dL_law_565 : decode cL_law 565 = .ok (.invokevirtual 85, 3) := by decide +kernel
theorem dL_law_568 : decode cL_law 568 = .ok (.if_icmp .eq 216, 3) := by decide +kernel
theorem dL_law_571 : decode cL_law 571 = .ok (.iconst 0, 1) := by decide +kernel
theorem dL_law_572 : decode cL_law 572 = .ok (.ireturn, 1) := by decide +kernel
theorem dL_law_573 : decode cL_law 573 = .ok (.aload_n 1, 1) := by decide +kernel
theorem dL_law_574 : decode cL_law 574 = .ok (.invokevirtual 86, 3) := by decide +kernel
theorem dL_law_577 : decode cL_law 577 = .ok (.aload_n 2, 1) := by decide +kernel
theorem dL_law_578 : decode cL_law 578 = .ok (.invokevirtual 89, 3) := by decide +kernel
theorem dL_law_581 : decode cL_law 581 = .ok (.if_icmp .eq 203, 3) := by decide +kernel
theorem dL_law_584 : decode cL_law 584 = .ok (.iconst 0, 1) := by decide +kernel
theorem dL_law_585 : decode cL_law 585 = .ok (.ireturn, 1) := by decide +kernel
theorem dL_law_586 : decode cL_law 586 = .ok (.aload_n 1, 1) := by decide +kernel
theorem dL_law_587 : decode cL_law 587 = .ok (.aload_n 0, 1) := by decide +kernel
theorem dL_law_588 : decode cL_law 588 = .ok (.iload_n 3, 1) := by decide +kernel
theorem dL_law_589 : decode cL_law 589 = .ok (.iconst 1, 1) := by decide +kernel
theorem dL_law_590 : decode cL_law 590 = .ok (.iadd, 1) := by decide +kernel
theorem dL_law_591 : decode cL_law 591 = .ok (.iaload, 1) := by decide +kernel
theorem dL_law_592 : decode cL_law 592 = .ok (.aload_n 0, 1) := by decide +kernel
theorem dL_law_593 : decode cL_law 593 = .ok (.iload_n 3, 1) := by decide +kernel
theorem dL_law_594 : decode cL_law 594 = .ok (.iconst 2, 1) := by decide +kernel
theorem dL_law_595 : decode cL_law 595 = .ok (.iadd, 1) := by decide +kernel
theorem dL_law_596 : decode cL_law 596 = .ok (.iaload, 1) := by decide +kernel
theorem dL_law_597 : decode cL_law 597 = .ok (.invokevirtual 90, 3) := by decide +kernel
theorem dL_law_600 : decode cL_law 600 = .ok (.aload_n 2, 1) := by decide +kernel
theorem dL_law_601 : decode cL_law 601 = .ok (.aload_n 0, 1) := by decide +kernel
theorem dL_law_602 : decode cL_law 602 = .ok (.iload_n 3, 1) := by decide +kernel
theorem dL_law_603 : decode cL_law 603 = .ok (.iconst 1, 1) := by decide +kernel
theorem dL_law_604 : decode cL_law 604 = .ok (.iadd, 1) := by decide +kernel
theorem dL_law_605 : decode cL_law 605 = .ok (.iaload, 1) := by decide +kernel
theorem dL_law_606 : decode cL_law 606 = .ok (.aload_n 0, 1) := by decide +kernel
theorem dL_law_607 : decode cL_law 607 = .ok (.iload_n 3, 1) := by decide +kernel
theorem dL_law_608 : decode cL_law 608 = .ok (.iconst 2, 1) := by decide +kernel
theorem dL_law_609 : decode cL_law 609 = .ok (.iadd, 1) := by decide +kernel
theorem dL_law_610 : decode cL_law 610 = .ok (.iaload, 1) := by decide +kernel
theorem dL_law_611 : decode cL_law 611 = .ok (.invokevirtual 93, 3) := by decide +kernel
theorem dL_law_614 : decode cL_law 614 = .ok (.if_icmp .eq 170, 3) := by decide +kernel
theorem dL_law_617 : decode cL_law 617 = .ok (.iconst 0, 1) := by decide +kernel
theorem dL_law_618 : decode cL_law 618 = .ok (.ireturn, 1) := by decide +kernel
theorem dL_law_619 : decode cL_law 619 = .ok (.aload_n 1, 1) := by decide +kernel
theorem dL_law_620 : decode cL_law 620 = .ok (.invokevirtual 94, 3) := by decide +kernel
theorem dL_law_623 : decode cL_law 623 = .ok (.aload_n 2, 1) := by decide +kernel
theorem dL_law_624 : decode cL_law 624 = .ok (.invokevirtual 97, 3) := by decide +kernel
theorem dL_law_627 : decode cL_law 627 = .ok (.if_icmp .eq 157, 3) := by decide +kernel
theorem dL_law_630 : decode cL_law 630 = .ok (.iconst 0, 1) := by decide +kernel
theorem dL_law_631 : decode cL_law 631 = .ok (.ireturn, 1) := by decide +kernel
theorem dL_law_632 : decode cL_law 632 = .ok (.aload_n 1, 1) := by decide +kernel
theorem dL_law_633 : decode cL_law 633 = .ok (.aload_n 0, 1) := by decide +kernel
theorem dL_law_634 : decode cL_law 634 = .ok (.iload_n 3, 1) := by decide +kernel
theorem dL_law_635 : decode cL_law 635 = .ok (.iconst 1, 1) := by decide +kernel
theorem dL_law_636 : decode cL_law 636 = .ok (.iadd, 1) := by decide +kernel
theorem dL_law_637 : decode cL_law 637 = .ok (.iaload, 1) := by decide +kernel
theorem dL_law_638 : decode cL_law 638 = .ok (.ifCond .eq 7, 3) := by decide +kernel
theorem dL_law_641 : decode cL_law 641 = .ok (.iconst 1, 1) := by decide +kernel
theorem dL_law_642 : decode cL_law 642 = .ok (.goto 4, 3) := by decide +kernel
theorem dL_law_645 : decode cL_law 645 = .ok (.iconst 0, 1) := by decide +kernel
theorem dL_law_646 : decode cL_law 646 = .ok (.invokevirtual 98, 3) := by decide +kernel
theorem dL_law_649 : decode cL_law 649 = .ok (.aload_n 2, 1) := by decide +kernel
theorem dL_law_650 : decode cL_law 650 = .ok (.aload_n 0, 1) := by decide +kernel
theorem dL_law_651 : decode cL_law 651 = .ok (.iload_n 3, 1) := by decide +kernel
theorem dL_law_652 : decode cL_law 652 = .ok (.iconst 1, 1) := by decide +kernel
theorem dL_law_653 : decode cL_law 653 = .ok (.iadd, 1) := by decide +kernel
theorem dL_law_654 : decode cL_law 654 = .ok (.iaload, 1) := by decide +kernel
theorem dL_law_655 : decode cL_law 655 = .ok (.ifCond .eq 7, 3) := by decide +kernel
theorem dL_law_658 : decode cL_law 658 = .ok (.iconst 1, 1) := by decide +kernel
theorem dL_law_659 : decode cL_law 659 = .ok (.goto 4, 3) := by decide +kernel
theorem dL_law_662 : decode cL_law 662 = .ok (.iconst 0, 1) := by decide +kernel
theorem dL_law_663 : decode cL_law 663 = .ok (.invokevirtual 102, 3) := by decide +kernel
theorem dL_law_666 : decode cL_law 666 = .ok (.if_icmp .eq 118, 3) := by decide +kernel
theorem dL_law_669 : decode cL_law 669 = .ok (.iconst 0, 1) := by decide +kernel
theorem dL_law_670 : decode cL_law 670 = .ok (.ireturn, 1) := by decide +kernel
theorem dL_law_671 : decode cL_law 671 = .ok (.aload_n 1, 1) := by decide +kernel
theorem dL_law_672 : decode cL_law 672 = .ok (.aload_n 0, 1) := by decide +kernel
theorem dL_law_673 : decode cL_law 673 = .ok (.iload_n 3, 1) := by decide +kernel
theorem dL_law_674 : decode cL_law 674 = .ok (.iconst 1, 1) := by decide +kernel
theorem dL_law_675 : decode cL_law 675 = .ok (.iadd, 1) := by decide +kernel
theorem dL_law_676 : decode cL_law 676 = .ok (.iaload, 1) := by decide +kernel
theorem dL_law_677 : decode cL_law 677 = .ok (.invokevirtual 103, 3) := by decide +kernel
theorem dL_law_680 : decode cL_law 680 = .ok (.aload_n 2, 1) := by decide +kernel
theorem dL_law_681 : decode cL_law 681 = .ok (.aload_n 0, 1) := by decide +kernel
theorem dL_law_682 : decode cL_law 682 = .ok (.iload_n 3, 1) := by decide +kernel
theorem dL_law_683 : decode cL_law 683 = .ok (.iconst 1, 1) := by decide +kernel
theorem dL_law_684 : decode cL_law 684 = .ok (.iadd, 1) := by decide +kernel
theorem dL_law_685 : decode cL_law 685 = .ok (.iaload, 1) := by decide +kernel
theorem dL_law_686 : decode cL_law 686 = .ok (.invokevirtual 106, 3) := by decide +kernel
theorem dL_law_689 : decode cL_law 689 = .ok (.if_icmp .eq 95, 3) := by decide +kernel
theorem dL_law_692 : decode cL_law 692 = .ok (.iconst 0, 1) := by decide +kernel
theorem dL_law_693 : decode cL_law 693 = .ok (.ireturn, 1) := by decide +kernel
theorem dL_law_694 : decode cL_law 694 = .ok (.aload_n 1, 1) := by decide +kernel
theorem dL_law_695 : decode cL_law 695 = .ok (.aload_n 0, 1) := by decide +kernel
theorem dL_law_696 : decode cL_law 696 = .ok (.iload_n 3, 1) := by decide +kernel
theorem dL_law_697 : decode cL_law 697 = .ok (.iconst 1, 1) := by decide +kernel
theorem dL_law_698 : decode cL_law 698 = .ok (.iadd, 1) := by decide +kernel
theorem dL_law_699 : decode cL_law 699 = .ok (.iaload, 1) := by decide +kernel
theorem dL_law_700 : decode cL_law 700 = .ok (.aload_n 0, 1) := by decide +kernel
theorem dL_law_701 : decode cL_law 701 = .ok (.iload_n 3, 1) := by decide +kernel
theorem dL_law_702 : decode cL_law 702 = .ok (.iconst 2, 1) := by decide +kernel
theorem dL_law_703 : decode cL_law 703 = .ok (.iadd, 1) := by decide +kernel
theorem dL_law_704 : decode cL_law 704 = .ok (.iaload, 1) := by decide +kernel
theorem dL_law_705 : decode cL_law 705 = .ok (.aload_n 0, 1) := by decide +kernel
theorem dL_law_706 : decode cL_law 706 = .ok (.iload_n 3, 1) := by decide +kernel
theorem dL_law_707 : decode cL_law 707 = .ok (.iconst 3, 1) := by decide +kernel
theorem dL_law_708 : decode cL_law 708 = .ok (.iadd, 1) := by decide +kernel
theorem dL_law_709 : decode cL_law 709 = .ok (.iaload, 1) := by decide +kernel
theorem dL_law_710 : decode cL_law 710 = .ok (.invokevirtual 107, 3) := by decide +kernel
theorem dL_law_713 : decode cL_law 713 = .ok (.aload_n 2, 1) := by decide +kernel
theorem dL_law_714 : decode cL_law 714 = .ok (.aload_n 0, 1) := by decide +kernel
theorem dL_law_715 : decode cL_law 715 = .ok (.iload_n 3, 1) := by decide +kernel
theorem dL_law_716 : decode cL_law 716 = .ok (.iconst 1, 1) := by decide +kernel
theorem dL_law_717 : decode cL_law 717 = .ok (.iadd, 1) := by decide +kernel
theorem dL_law_718 : decode cL_law 718 = .ok (.iaload, 1) := by decide +kernel
theorem dL_law_719 : decode cL_law 719 = .ok (.aload_n 0, 1) := by decide +kernel
theorem dL_law_720 : decode cL_law 720 = .ok (.iload_n 3, 1) := by decide +kernel
theorem dL_law_721 : decode cL_law 721 = .ok (.iconst 2, 1) := by decide +kernel
theorem dL_law_722 : decode cL_law 722 = .ok (.iadd, 1) := by decide +kernel
theorem dL_law_723 : decode cL_law 723 = .ok (.iaload, 1) := by decide +kernel
theorem dL_law_724 : decode cL_law 724 = .ok (.aload_n 0, 1) := by decide +kernel
theorem dL_law_725 : decode cL_law 725 = .ok (.iload_n 3, 1) := by decide +kernel
theorem dL_law_726 : decode cL_law 726 = .ok (.iconst 3, 1) := by decide +kernel
theorem dL_law_727 : decode cL_law 727 = .ok (.iadd, 1) := by decide +kernel
theorem dL_law_728 : decode cL_law 728 = .ok (.iaload, 1) := by decide +kernel
theorem dL_law_729 : decode cL_law 729 = .ok (.invokevirtual 110, 3) := by decide +kernel
theorem dL_law_732 : decode cL_law 732 = .ok (.if_icmp .eq 52, 3) := by decide +kernel
theorem dL_law_735 : decode cL_law 735 = .ok (.iconst 0, 1) := by decide +kernel
theorem dL_law_736 : decode cL_law 736 = .ok (.ireturn, 1) := by decide +kernel
theorem dL_law_737 : decode cL_law 737 = .ok (.aload_n 1, 1) := by decide +kernel
theorem dL_law_738 : decode cL_law 738 = .ok (.aload_n 0, 1) := by decide +kernel
theorem dL_law_739 : decode cL_law 739 = .ok (.iload_n 3, 1) := by decide +kernel
theorem dL_law_740 : decode cL_law 740 = .ok (.iconst 1, 1) := by decide +kernel
theorem dL_law_741 : decode cL_law 741 = .ok (.iadd, 1) := by decide +kernel
theorem dL_law_742 : decode cL_law 742 = .ok (.iaload, 1) := by decide +kernel
theorem dL_law_743 : decode cL_law 743 = .ok (.aload_n 0, 1) := by decide +kernel
theorem dL_law_744 : decode cL_law 744 = .ok (.iload_n 3, 1) := by decide +kernel
theorem dL_law_745 : decode cL_law 745 = .ok (.iconst 2, 1) := by decide +kernel
theorem dL_law_746 : decode cL_law 746 = .ok (.iadd, 1) := by decide +kernel
theorem dL_law_747 : decode cL_law 747 = .ok (.iaload, 1) := by decide +kernel
theorem dL_law_748 : decode cL_law 748 = .ok (.invokevirtual 111, 3) := by decide +kernel
theorem dL_law_751 : decode cL_law 751 = .ok (.aload_n 2, 1) := by decide +kernel
theorem dL_law_752 : decode cL_law 752 = .ok (.aload_n 0, 1) := by decide +kernel
theorem dL_law_753 : decode cL_law 753 = .ok (.iload_n 3, 1) := by decide +kernel
theorem dL_law_754 : decode cL_law 754 = .ok (.iconst 1, 1) := by decide +kernel
theorem dL_law_755 : decode cL_law 755 = .ok (.iadd, 1) := by decide +kernel
theorem dL_law_756 : decode cL_law 756 = .ok (.iaload, 1) := by decide +kernel
theorem dL_law_757 : decode cL_law 757 = .ok (.aload_n 0, 1) := by decide +kernel
theorem dL_law_758 : decode cL_law 758 = .ok (.iload_n 3, 1) := by decide +kernel
theorem dL_law_759 : decode cL_law 759 = .ok (.iconst 2, 1) := by decide +kernel
theorem dL_law_760 : decode cL_law 760 = .ok (.iadd, 1) := by decide +kernel
theorem dL_law_761 : decode cL_law 761 = .ok (.iaload, 1) := by decide +kernel
theorem dL_law_762 : decode cL_law 762 = .ok (.invokevirtual 114, 3) := by decide +kernel
theorem dL_law_765 : decode cL_law 765 = .ok (.if_icmp .eq 19, 3) := by decide +kernel
theorem dL_law_768 : decode cL_law 768 = .ok (.iconst 0, 1) := by decide +kernel
theorem dL_law_769 : decode cL_law 769 = .ok (.ireturn, 1) := by decide +kernel
theorem dL_law_770 : decode cL_law 770 = .ok (.aload_n 1, 1) := by decide +kernel
theorem dL_law_771 : decode cL_law 771 = .ok (.invokevirtual 115, 3) := by decide +kernel
theorem dL_law_774 : decode cL_law 774 = .ok (.aload_n 2, 1) := by decide +kernel
theorem dL_law_775 : decode cL_law 775 = .ok (.invokevirtual 119, 3) := by decide +kernel
theorem dL_law_778 : decode cL_law 778 = .ok (.lcmp, 1) := by decide +kernel
theorem dL_law_779 : decode cL_law 779 = .ok (.ifCond .eq 5, 3) := by decide +kernel
theorem dL_law_782 : decode cL_law 782 = .ok (.iconst 0, 1) := by decide +kernel
theorem dL_law_783 : decode cL_law 783 = .ok (.ireturn, 1) := by decide +kernel
theorem dL_law_784 : decode cL_law 784 = .ok (.iinc 3 6, 3) := by decide +kernel
theorem dL_law_787 : decode cL_law 787 = .ok (.goto (-759), 3) := by decide +kernel
theorem dL_law_790 : decode cL_law 790 = .ok (.iconst 1, 1) := by decide +kernel
theorem dL_law_791 : decode cL_law 791 = .ok (.ireturn, 1) := by decide +kernel
theorem dJ6_bitCount_0f7a4_0 : decode cJ6_bitCount_0f7a4 0 = .ok (.iload_n 0, 1) := by decide +kernel
theorem dJ6_bitCount_0f7a4_1 : decode cJ6_bitCount_0f7a4 1 = .ok (.iload_n 0, 1) := by decide +kernel
theorem dJ6_bitCount_0f7a4_2 : decode cJ6_bitCount_0f7a4 2 = .ok (.iconst 1, 1) := by decide +kernel
theorem dJ6_bitCount_0f7a4_3 : decode cJ6_bitCount_0f7a4 3 = .ok (.iushr, 1) := by decide +kernel
theorem dJ6_bitCount_0f7a4_4 : decode cJ6_bitCount_0f7a4 4 = .ok (.ldc_w 265, 3) := by decide +kernel
theorem dJ6_bitCount_0f7a4_7 : decode cJ6_bitCount_0f7a4 7 = .ok (.iand, 1) := by decide +kernel
theorem dJ6_bitCount_0f7a4_8 : decode cJ6_bitCount_0f7a4 8 = .ok (.isub, 1) := by decide +kernel
theorem dJ6_bitCount_0f7a4_9 : decode cJ6_bitCount_0f7a4 9 = .ok (.istore_n 0, 1) := by decide +kernel
theorem dJ6_bitCount_0f7a4_10 : decode cJ6_bitCount_0f7a4 10 = .ok (.iload_n 0, 1) := by decide +kernel
theorem dJ6_bitCount_0f7a4_11 : decode cJ6_bitCount_0f7a4 11 = .ok (.ldc_w 266, 3) := by decide +kernel
theorem dJ6_bitCount_0f7a4_14 : decode cJ6_bitCount_0f7a4 14 = .ok (.iand, 1) := by decide +kernel
theorem dJ6_bitCount_0f7a4_15 : decode cJ6_bitCount_0f7a4 15 = .ok (.iload_n 0, 1) := by decide +kernel
theorem dJ6_bitCount_0f7a4_16 : decode cJ6_bitCount_0f7a4 16 = .ok (.iconst 2, 1) := by decide +kernel
theorem dJ6_bitCount_0f7a4_17 : decode cJ6_bitCount_0f7a4 17 = .ok (.iushr, 1) := by decide +kernel
theorem dJ6_bitCount_0f7a4_18 : decode cJ6_bitCount_0f7a4 18 = .ok (.ldc_w 266, 3) := by decide +kernel
theorem dJ6_bitCount_0f7a4_21 : decode cJ6_bitCount_0f7a4 21 = .ok (.iand, 1) := by decide +kernel
theorem dJ6_bitCount_0f7a4_22 : decode cJ6_bitCount_0f7a4 22 = .ok (.iadd, 1) := by decide +kernel
theorem dJ6_bitCount_0f7a4_23 : decode cJ6_bitCount_0f7a4 23 = .ok (.istore_n 0, 1) := by decide +kernel
theorem dJ6_bitCount_0f7a4_24 : decode cJ6_bitCount_0f7a4 24 = .ok (.iload_n 0, 1) := by decide +kernel
theorem dJ6_bitCount_0f7a4_25 : decode cJ6_bitCount_0f7a4 25 = .ok (.iload_n 0, 1) := by decide +kernel
theorem dJ6_bitCount_0f7a4_26 : decode cJ6_bitCount_0f7a4 26 = .ok (.iconst 4, 1) := by decide +kernel
theorem dJ6_bitCount_0f7a4_27 : decode cJ6_bitCount_0f7a4 27 = .ok (.iushr, 1) := by decide +kernel
theorem dJ6_bitCount_0f7a4_28 : decode cJ6_bitCount_0f7a4 28 = .ok (.iadd, 1) := by decide +kernel
theorem dJ6_bitCount_0f7a4_29 : decode cJ6_bitCount_0f7a4 29 = .ok (.ldc_w 267, 3) := by decide +kernel
theorem dJ6_bitCount_0f7a4_32 : decode cJ6_bitCount_0f7a4 32 = .ok (.iand, 1) := by decide +kernel
theorem dJ6_bitCount_0f7a4_33 : decode cJ6_bitCount_0f7a4 33 = .ok (.istore_n 0, 1) := by decide +kernel
theorem dJ6_bitCount_0f7a4_34 : decode cJ6_bitCount_0f7a4 34 = .ok (.iload_n 0, 1) := by decide +kernel
theorem dJ6_bitCount_0f7a4_35 : decode cJ6_bitCount_0f7a4 35 = .ok (.iload_n 0, 1) := by decide +kernel
theorem dJ6_bitCount_0f7a4_36 : decode cJ6_bitCount_0f7a4 36 = .ok (.bipush 8, 2) := by decide +kernel
theorem dJ6_bitCount_0f7a4_38 : decode cJ6_bitCount_0f7a4 38 = .ok (.iushr, 1) := by decide +kernel
theorem dJ6_bitCount_0f7a4_39 : decode cJ6_bitCount_0f7a4 39 = .ok (.iadd, 1) := by decide +kernel
theorem dJ6_bitCount_0f7a4_40 : decode cJ6_bitCount_0f7a4 40 = .ok (.istore_n 0, 1) := by decide +kernel
theorem dJ6_bitCount_0f7a4_41 : decode cJ6_bitCount_0f7a4 41 = .ok (.iload_n 0, 1) := by decide +kernel
theorem dJ6_bitCount_0f7a4_42 : decode cJ6_bitCount_0f7a4 42 = .ok (.iload_n 0, 1) := by decide +kernel
theorem dJ6_bitCount_0f7a4_43 : decode cJ6_bitCount_0f7a4 43 = .ok (.bipush 16, 2) := by decide +kernel
theorem dJ6_bitCount_0f7a4_45 : decode cJ6_bitCount_0f7a4 45 = .ok (.iushr, 1) := by decide +kernel
theorem dJ6_bitCount_0f7a4_46 : decode cJ6_bitCount_0f7a4 46 = .ok (.iadd, 1) := by decide +kernel
theorem dJ6_bitCount_0f7a4_47 : decode cJ6_bitCount_0f7a4 47 = .ok (.istore_n 0, 1) := by decide +kernel
theorem dJ6_bitCount_0f7a4_48 : decode cJ6_bitCount_0f7a4 48 = .ok (.iload_n 0, 1) := by decide +kernel
theorem dJ6_bitCount_0f7a4_49 : decode cJ6_bitCount_0f7a4 49 = .ok (.bipush 63, 2) := by decide +kernel
theorem dJ6_bitCount_0f7a4_51 : decode cJ6_bitCount_0f7a4 51 = .ok (.iand, 1) := by decide +kernel
theorem dJ6_bitCount_0f7a4_52 : decode cJ6_bitCount_0f7a4 52 = .ok (.ireturn, 1) := by decide +kernel
end
section
theorem dX11_init_0 : decode cX11_init 0 = .ok (.aload_n 0, 1) := by decide +kernel
theorem dX11_init_1 : decode cX11_init 1 = .ok (.invokespecial 1, 3) := by decide +kernel
theorem dX11_init_4 : decode cX11_init 4 = .ok (.aload_n 0, 1) := by decide +kernel
theorem dX11_init_5 : decode cX11_init 5 = .ok (.sipush 3328, 3) := by decide +kernel
theorem dX11_init_8 : decode cX11_init 8 = .ok (.newarray .int, 2) := by decide +kernel
theorem dX11_init_10 : decode cX11_init 10 = .ok (.putfield 7, 3) := by decide +kernel
theorem dX11_init_13 : decode cX11_init 13 = .ok (.aload_n 0, 1) := by decide +kernel
theorem dX11_init_14 : decode cX11_init 14 = .ok (.iconst (-1), 1) := by decide +kernel
theorem dX11_init_15 : decode cX11_init 15 = .ok (.putfield 13, 3) := by decide +kernel
theorem dX11_init_18 : decode cX11_init 18 = .ok (.aload_n 0, 1) := by decide +kernel
theorem dX11_init_19 : decode cX11_init 19 = .ok (.sipush 400, 3) := by decide +kernel
theorem dX11_init_22 : decode cX11_init 22 = .ok (.newarray .int, 2) := by decide +kernel
theorem dX11_init_24 : decode cX11_init 24 = .ok (.putfield 17, 3) := by decide +kernel
theorem dX11_init_27 : decode cX11_init 27 = .ok (.aload_n 0, 1) := by decide +kernel
theorem dX11_init_28 : decode cX11_init 28 = .ok (.bipush 32, 2) := by decide +kernel
theorem dX11_init_30 : decode cX11_init 30 = .ok (.newarray .int, 2) := by decide +kernel
theorem dX11_init_32 : decode cX11_init 32 = .ok (.putfield 20, 3) := by decide +kernel
theorem dX11_init_35 : decode cX11_init 35 = .ok (.aload_n 0, 1) := by decide +kernel
theorem dX11_init_36 : decode cX11_init 36 = .ok (.sipush 400, 3) := by decide +kernel
theorem dX11_init_39 : decode cX11_init 39 = .ok (.newarray .int, 2) := by decide +kernel
theorem dX11_init_41 : decode cX11_init 41 = .ok (.putfield 23, 3) := by decide +kernel
theorem dX11_init_44 : decode cX11_init 44 = .ok (.aload_n 0, 1) := by decide +kernel
theorem dX11_init_45 : decode cX11_init 45 = .ok (.iconst 4, 1) := by decide +kernel
theorem dX11_init_46 : decode cX11_init 46 = .ok (.newarray .int, 2) := by decide +kernel
theorem dX11_init_48 : decode cX11_init 48 = .ok (.putfield 26, 3) := by decide +kernel
theorem dX11_init_51 : decode cX11_init 51 = .ok (.aload_n 0, 1) := by decide +kernel
theorem dX11_init_52 : decode cX11_init 52 = .ok (.iconst 4, 1) := by decide +kernel
theorem dX11_init_53 : decode cX11_init 53 = .ok (.newarray .int, 2) := by decide +kernel
theorem dX11_init_55 : decode cX11_init 55 = .ok (.putfield 29, 3) := by decide +kernel
theorem dX11_init_58 : decode cX11_init 58 = .ok (.aload_n 0, 1) := by decide +kernel
theorem dX11_init_59 : decode cX11_init 59 = .ok (.iconst 5, 1) := by decide +kernel
theorem dX11_init_60 : decode cX11_init 60 = .ok (.newarray .int, 2) := by decide +kernel
theorem dX11_init_62 : decode cX11_init 62 = .ok (.putfield 32, 3) := by decide +kernel
theorem dX11_init_65 : decode cX11_init 65 = .ok (.aload_n 0, 1) := by decide +kernel
theorem dX11_init_66 : decode cX11_init 66 = .ok (.iconst 5, 1) := by decide +kernel
theorem dX11_init_67 : decode cX11_init 67 = .ok (.newarray .int, 2) := by decide +kernel
theorem dX11_init_69 : decode cX11_init 69 = .ok (.putfield 35, 3) := by decide +kernel
theorem dX11_init_72 : decode cX11_init 72 = .ok (.aload_n 0, 1) := by decide +kernel
theorem dX11_init_73 : decode cX11_init 73 = .ok (.iconst 5, 1) := by decide +kernel
theorem dX11_init_74 : decode cX11_init 74 = .ok (.newarray .long, 2) := by decide +kernel
theorem dX11_init_76 : decode cX11_init 76 = .ok (.putfield 38, 3) := by decide +kernel
theorem dX11_init_79 : decode cX11_init 79 = .ok (.aload_n 0, 1) := by decide +kernel
theorem dX11_init_80 : decode cX11_init 80 = .ok (.sipush 400, 3) := by decide +kernel
theorem dX11_init_83 : decode cX11_init 83 = .ok (.newarray .int, 2) := by decide +kernel
theorem dX11_init_85 : decode cX11_init 85 = .ok (.putfield 42, 3) := by decide +kernel
theorem dX11_init_88 : decode cX11_init 88 = .ok (.aload_n 0, 1) := by decide +kernel
theorem dX11_init_89 : decode cX11_init 89 = .ok (.sipush 400, 3) := by decide +kernel
theorem dX11_init_92 : decode cX11_init 92 = .ok (.newarray .long, 2) := by decide +kernel
theorem dX11_init_94 : decode cX11_init 94 = .ok (.putfield 45, 3) := by decide +kernel
theorem dX11_init_97 : decode cX11_init 97 = .ok (.aload_n 0, 1) := by decide +kernel
theorem dX11_init_98 : decode cX11_init 98 = .ok (.sipush 160, 3) := by decide +kernel
theorem dX11_init_101 : decode cX11_init 101 = .ok (.newarray .int, 2) := by decide +kernel
theorem dX11_init_103 : decode cX11_init 103 = .ok (.putfield 48, 3) := by decide +kernel
theorem dX11_init_106 : decode cX11_init 106 = .ok (.aload_n 0, 1) := by decide +kernel
theorem dX11_init_107 : decode cX11_init 107 = .ok (.sipush 400, 3) := by decide +kernel
theorem dX11_init_110 : decode cX11_init 110 = .ok (.newarray .int, 2) := by decide +kernel
theorem dX11_init_112 : decode cX11_init 112 = .ok (.putfield 51, 3) := by decide +kernel
theorem dX11_init_115 : decode cX11_init 115 = .ok (.aload_n 0, 1) := by decide +kernel
theorem dX11_init_116 : decode cX11_init 116 = .ok (.iconst 4, 1) := by decide +kernel
theorem dX11_init_117 : decode cX11_init 117 = .ok (.newarray .int, 2) := by decide +kernel
theorem dX11_init_119 : decode cX11_init 119 = .ok (.putfield 54, 3) := by decide +kernel
theorem dX11_init_122 : decode cX11_init 122 = .ok (.aload_n 0, 1) := by decide +kernel
theorem dX11_init_123 : decode cX11_init 123 = .ok (.iconst 4, 1) := by decide +kernel
theorem dX11_init_124 : decode cX11_init 124 = .ok (.newarray .int, 2) := by decide +kernel
theorem dX11_init_126 : decode cX11_init 126 = .ok (.putfield 57, 3) := by decide +kernel
theorem dX11_init_129 : decode cX11_init 129 = .ok (.aload_n 0, 1) := by decide +kernel
theorem dX11_init_130 : decode cX11_init 130 = .ok (.iconst 4, 1) := by decide +kernel
theorem dX11_init_131 : decode cX11_init 131 = .ok (.newarray .int, 2) := by decide +kernel
theorem dX11_init_133 : decode cX11_init 133 = .ok (.putfield 60, 3) := by decide +kernel
theorem dX11_init_136 : decode cX11_init 136 = .ok (.aload_n 0, 1) := by decide +kernel
theorem dX11_init_137 : decode cX11_init 137 = .ok (.iconst 4, 1) := by decide +kernel
theorem dX11_init_138 : decode cX11_init 138 = .ok (.newarray .int, 2) := by decide +kernel
theorem dX11_init_140 : decode cX11_init 140 = .ok (.putfield 63, 3) := by decide +kernel
theorem dX11_init_143 : decode cX11_init 143 = .ok (.aload_n 0, 1) := by decide +kernel
theorem dX11_init_144 : decode cX11_init 144 = .ok (.iconst 4, 1) := by decide +kernel
theorem dX11_init_145 : decode cX11_init 145 = .ok (.newarray .int, 2) := by decide +kernel
theorem dX11_init_147 : decode cX11_init 147 = .ok (.putfield 66, 3) := by decide +kernel
theorem dX11_init_150 : decode cX11_init 150 = .ok (.aload_n 0, 1) := by decide +kernel
theorem dX11_init_151 : decode cX11_init 151 = .ok (.bipush 120, 2) := by decide +kernel
theorem dX11_init_153 : decode cX11_init 153 = .ok (.newarray .int, 2) := by decide +kernel
theorem dX11_init_155 : decode cX11_init 155 = .ok (.putfield 69, 3) := by decide +kernel
theorem dX11_init_158 : decode cX11_init 158 = .ok (.aload_n 0, 1) := by decide +kernel
theorem dX11_init_159 : decode cX11_init 159 = .ok (.bipush (-2), 2) := by decide +kernel
theorem dX11_init_161 : decode cX11_init 161 = .ok (.putfield 72, 3) := by decide +kernel
theorem dX11_init_164 : decode cX11_init 164 = .ok (.aload_n 0, 1) := by decide +kernel
theorem dX11_init_165 : decode cX11_init 165 = .ok (.iconst 4, 1) := by decide +kernel
theorem dX11_init_166 : decode cX11_init 166 = .ok (.newarray .int, 2) := by decide +kernel
theorem dX11_init_168 : decode cX11_init 168 = .ok (.dup, 1) := by decide +kernel
theorem dX11_init_169 : decode cX11_init 169 = .ok (.iconst 0, 1) := by decide +kernel
theorem dX11_init_170 : decode cX11_init 170 = .ok (.iconst 0, 1) := by decide +kernel
theorem dX11_init_171 : decode cX11_init 171 = .ok (.iastore, 1) := by decide +kernel
theorem dX11_init_172 : decode cX11_init 172 = .ok (.dup, 1) := by decide +kernel
theorem dX11_init_173 : decode cX11_init 173 = .ok (.iconst 1, 1) := by decide +kernel
theorem dX11_init_174 : decode cX11_init 174 = .ok (.iconst 0, 1) := by decide +kernel
theorem dX11_init_175 : decode cX11_init 175 = .ok (.iastore, 1) := by decide +kernel
theorem dX11_init_176 : decode cX11_init 176 = .ok (.dup, 1) := by decide +kernel
theorem dX11_init_177 : decode cX11_init 177 = .ok (.iconst 2, 1) := by decide +kernel
theorem dX11_init_178 : decode cX11_init 178 = .ok (.iconst 1, 1) := by decide +kernel
theorem dX11_init_179 : decode cX11_init 179 = .ok (.iastore, 1) := by decide +kernel
theorem dX11_init_180 : decode cX11_init 180 = .ok (.dup, 1) := by decide +kernel
theorem dX11_init_181 : decode cX11_init 181 = .ok (.iconst 3, 1) := by decide +kernel
theorem dX11_init_182 : decode cX11_init 182 = .ok (.iconst 1, 1) := by decide +kernel
theorem dX11_init_183 : decode cX11_init 183 = .ok (.iastore, 1) := by decide +kernel
theorem dX11_init_184 : decode cX11_init 184 = .ok (.putfield 75, 3) := by decide +kernel
theorem dX11_init_187 : decode cX11_init 187 = .ok (.aload_n 0, 1) := by decide +kernel
theorem dX11_init_188 : decode cX11_init 188 = .ok (.iconst 4, 1) := by decide +kernel
theorem dX11_init_189 : decode cX11_init 189 = .ok (.newarray .long, 2) := by decide +kernel
theorem dX11_init_191 : decode cX11_init 191 = .ok (.putfield 78, 3) := by decide +kernel
theorem dX11_init_194 : decode cX11_init 194 = .ok (.aload_n 0, 1) := by decide +kernel
theorem dX11_init_195 : decode cX11_init 195 = .ok (.iload_n 1, 1) := by decide +kernel
theorem dX11_init_196 : decode cX11_init 196 = .ok (.iconst 1, 1) := by decide +kernel
theorem dX11_init_197 : decode cX11_init 197 = .ok (.if_icmp .ge 7, 3) := by decide +kernel
theorem dX11_init_200 : decode cX11_init 200 = .ok (.iconst 1, 1) := by decide +kernel
theorem dX11_init_201 : decode cX11_init 201 = .ok (.goto 17, 3) := by decide +kernel
theorem dX11_init_204 : decode cX11_init 204 = .ok (.iload_n 1, 1) := by decide +kernel
theorem dX11_init_205 : decode cX11_init 205 = .ok (.sipush 1024, 3) := by decide +kernel
theorem dX11_init_208 : decode cX11_init 208 = .ok (.if_icmp .le 9, 3) := by decide +kernel
theorem dX11_init_211 : decode cX11_init 211 = .ok (.sipush 1024, 3) := by decide +kernel
theorem dX11_init_214 : decode cX11_init 214 = .ok (.goto 4, 3) := by decide +kernel
theorem dX11_init_217 : decode cX11_init 217 = .ok (.iload_n 1, 1) := by decide +kernel
theorem dX11_init_218 : decode cX11_init 218 = .ok (.putfield 81, 3) := by decide +kernel
theorem dX11_init_221 : decode cX11_init 221 = .ok (.iconst 0, 1) := by decide +kernel
theorem dX11_init_222 : decode cX11_init 222 = .ok (.istore_n 2, 1) := by decide +kernel
theorem dX11_init_223 : decode cX11_init 223 = .ok (.iload_n 2, 1) := by decide +kernel
theorem dX11_init_224 : decode cX11_init 224 = .ok (.sipush 3328, 3) := by decide +kernel
theorem dX11_init_227 : decode cX11_init 227 = .ok (.if_icmp .ge 18, 3) := by decide +kernel
theorem dX11_init_230 : decode cX11_init 230 = .ok (.aload_n 0, 1) := by decide +kernel
theorem dX11_init_231 : decode cX11_init 231 = .ok (.getfield 7, 3) := by decide +kernel
theorem dX11_init_234 : decode cX11_init 234 = .ok (.iload_n 2, 1) := by decide +kernel
theorem dX11_init_235 : decode cX11_init 235 = .ok (.sipush 255, 3) := by decide +kernel
theorem dX11_init_238 : decode cX11_init 238 = .ok (.iastore, 1) := by decide +kernel
theorem dX11_init_239 : decode cX11_init 239 = .ok (.iinc 2 1, 3) := by decide +kernel
theorem dX11_init_242 : decode cX11_init 242 = .ok (.goto (-19), 3) := by decide +kernel
theorem dX11_init_245 : decode cX11_init 245 = .ok (.iconst 0, 1) := by decide +kernel
theorem dX11_init_246 : decode cX11_init 246 = .ok (.istore_n 2, 1) := by decide +kernel
theorem dX11_init_247 : decode cX11_init 247 = .ok (.iload_n 2, 1) := by decide +kernel
theorem dX11_init_248 : decode cX11_init 248 = .ok (.aload_n 0, 1) := by decide +kernel
theorem dX11_init_249 : decode cX11_init 249 = .ok (.getfield 81, 3) := by decide +kernel
theorem dX11_init_252 : decode cX11_init 252 = .ok (.if_icmp .ge 30, 3) := by decide +kernel
theorem dX11_init_255 : decode cX11_init 255 = .ok (.aload_n 0, 1) := by decide +kernel
theorem dX11_init_256 : decode cX11_init 256 = .ok (.getfield 7, 3) := by decide +kernel
theorem dX11_init_259 : decode cX11_init 259 = .ok (.iconst 0, 1) := by decide +kernel
theorem dX11_init_260 : decode cX11_init 260 = .ok (.invokestatic 84, 3) := by decide +kernel
theorem dX11_init_263 : decode cX11_init 263 = .ok (.iload_n 2, 1) := by decide +kernel
theorem dX11_init_264 : decode cX11_init 264 = .ok (.iadd, 1) := by decide +kernel
theorem dX11_init_265 : decode cX11_init 265 = .ok (.bipush 7, 2) := by decide +kernel
theorem dX11_init_267 : decode cX11_init 267 = .ok (.iload_n 2, 1) := by decide +kernel
theorem dX11_init_268 : decode cX11_init 268 = .ok (.imul, 1) := by decide +kernel
theorem dX11_init_269 : decode cX11_init 269 = .ok (.iconst 3, 1) := by decide +kernel
theorem dX11_init_270 : decode cX11_init 270 = .ok (.iadd, 1) := by decide +kernel
theorem dX11_init_271 : decode cX11_init 271 = .ok (.sipush 255, 3) := by decide +kernel
theorem dX11_init_274 : decode cX11_init 274 = .ok (.iand, 1) := by decide +kernel
theorem dX11_init_275 : decode cX11_init 275 = .ok (.iastore, 1) := by decide +kernel
theorem dX11_init_276 : decode cX11_init 276 = .ok (.iinc 2 1, 3) := by decide +kernel
theorem dX11_init_279 : decode cX11_init 279 = .ok (.goto (-32), 3) := by decide +kernel
theorem dX11_init_282 : decode cX11_init 282 = .ok (.aload_n 0, 1) := by decide +kernel
theorem dX11_init_283 : decode cX11_init 283 = .ok (.aload_n 0, 1) := by decide +kernel
theorem dX11_init_284 : decode cX11_init 284 = .ok (.iconst 0, 1) := by decide +kernel
theorem dX11_init_285 : decode cX11_init 285 = .ok (.aload_n 0, 1) := by decide +kernel
theorem dX11_init_286 : decode cX11_init 286 = .ok (.getfield 81, 3) := by decide +kernel
theorem dX11_init_289 : decode cX11_init 289 = .ok (.invokevirtual 88, 3) := by decide +kernel
theorem dX11_init_292 : decode cX11_init 292 = .ok (.putfield 92, 3) := by decide +kernel
theorem dX11_init_295 : decode cX11_init 295 = .ok (.iconst 0, 1) := by decide +kernel
theorem dX11_init_296 : decode cX11_init 296 = .ok (.istore_n 2, 1) := by decide +kernel
theorem dX11_init_297 : decode cX11_init 297 = .ok (.iload_n 2, 1) := by decide +kernel
theorem dX11_init_298 : decode cX11_init 298 = .ok (.iconst 4, 1) := by decide +kernel
theorem dX11_init_299 : decode cX11_init 299 = .ok (.if_icmp .ge 67, 3) := by decide +kernel
theorem dX11_init_302 : decode cX11_init 302 = .ok (.aload_n 0, 1) := by decide +kernel
theorem dX11_init_303 : decode cX11_init 303 = .ok (.getfield 54, 3) := by decide +kernel
theorem dX11_init_306 : decode cX11_init 306 = .ok (.iload_n 2, 1) := by decide +kernel
theorem dX11_init_307 : decode cX11_init 307 = .ok (.iload_n 2, 1) := by decide +kernel
theorem dX11_init_308 : decode cX11_init 308 = .ok (.ifCond .ne 8, 3) := by decide +kernel
theorem dX11_init_311 : decode cX11_init 311 = .ok (.bipush 7, 2) := by decide +kernel
theorem dX11_init_313 : decode cX11_init 313 = .ok (.goto 25, 3) := by decide +kernel
theorem dX11_init_316 : decode cX11_init 316 = .ok (.iload_n 2, 1) := by decide +kernel
theorem dX11_init_317 : decode cX11_init 317 = .ok (.iconst 1, 1) := by decide +kernel
theorem dX11_init_318 : decode cX11_init 318 = .ok (.if_icmp .ne 8, 3) := by decide +kernel
theorem dX11_init_321 : decode cX11_init 321 = .ok (.bipush 8, 2) := by decide +kernel
theorem dX11_init_323 : decode cX11_init 323 = .ok (.goto 15, 3) := by decide +kernel
theorem dX11_init_326 : decode cX11_init 326 = .ok (.iload_n 2, 1) := by decide +kernel
theorem dX11_init_327 : decode cX11_init 327 = .ok (.iconst 2, 1) := by decide +kernel
theorem dX11_init_328 : decode cX11_init 328 = .ok (.if_icmp .ne 8, 3) := by decide +kernel
theorem dX11_init_331 : decode cX11_init 331 = .ok (.bipush 16, 2) := by decide +kernel
theorem dX11_init_333 : decode cX11_init 333 = .ok (.goto 5, 3) := by decide +kernel
theorem dX11_init_336 : decode cX11_init 336 = .ok (.bipush 96, 2) := by decide +kernel
theorem dX11_init_338 : decode cX11_init 338 = .ok (.iastore, 1) := by decide +kernel
theorem dX11_init_339 : decode cX11_init 339 = .ok (.aload_n 0, 1) := by decide +kernel
theorem dX11_init_340 : decode cX11_init 340 = .ok (.getfield 57, 3) := by decide +kernel
theorem dX11_init_343 : decode cX11_init 343 = .ok (.iload_n 2, 1) := by decide +kernel
theorem dX11_init_344 : decode cX11_init 344 = .ok (.iload_n 2, 1) := by decide +kernel
theorem dX11_init_345 : decode cX11_init 345 = .ok (.iconst 1, 1) := by decide +kernel
theorem dX11_init_346 : decode cX11_init 346 = .ok (.if_icmp .eq 8, 3) := by decide +kernel
theorem dX11_init_349 : decode cX11_init 349 = .ok (.iload_n 2, 1) := by decide +kernel
theorem dX11_init_350 : decode cX11_init 350 = .ok (.iconst 2, 1) := by decide +kernel
theorem dX11_init_351 : decode cX11_init 351 = .ok (.if_icmp .ne 7, 3) := by decide +kernel
theorem dX11_init_354 : decode cX11_init 354 = .ok (.iconst 1, 1) := by decide +kernel
theorem dX11_init_355 : decode cX11_init 355 = .ok (.goto 4, 3) := by decide +kernel
theorem dX11_init_358 : decode cX11_init 358 = .ok (.iconst 2, 1) := by decide +kernel
theorem dX11_init_359 : decode cX11_init 359 = .ok (.iastore, 1) := by decide +kernel
theorem dX11_init_360 : decode cX11_init 360 = .ok (.iinc 2 1, 3) := by decide +kernel
theorem dX11_init_363 : decode cX11_init 363 = .ok (.goto (-66), 3) := by decide +kernel
theorem dX11_init_366 : decode cX11_init 366 = .ok (.aload_n 0, 1) := by decide +kernel
theorem dX11_init_367 : decode cX11_init 367 = .ok (.iconst 0, 1) := by decide +kernel
theorem dX11_init_368 : decode cX11_init 368 = .ok (.putfield 96, 3) := by decide +kernel
theorem dX11_init_371 : decode cX11_init 371 = .ok (.aload_n 0, 1) := by decide +kernel
theorem dX11_init_372 : decode cX11_init 372 = .ok (.invokevirtual 99, 3) := by decide +kernel
theorem dX11_init_375 : decode cX11_init 375 = .ok (.aload_n 0, 1) := by decide +kernel
theorem dX11_init_376 : decode cX11_init 376 = .ok (.iconst 0, 1) := by decide +kernel
theorem dX11_init_377 : decode cX11_init 377 = .ok (.invokevirtual 102, 3) := by decide +kernel
theorem dX11_init_380 : decode cX11_init 380 = .ok (.iconst 0, 1) := by decide +kernel
theorem dX11_init_381 : decode cX11_init 381 = .ok (.istore_n 2, 1) := by decide +kernel
theorem dX11_init_382 : decode cX11_init 382 = .ok (.iload_n 2, 1) := by decide +kernel
theorem dX11_init_383 : decode cX11_init 383 = .ok (.bipush 32, 2) := by decide +kernel
theorem dX11_init_385 : decode cX11_init 385 = .ok (.if_icmp .ge 25, 3) := by decide +kernel
theorem dX11_init_388 : decode cX11_init 388 = .ok (.aload_n 0, 1) := by decide +kernel
theorem dX11_init_389 : decode cX11_init 389 = .ok (.getfield 7, 3) := by decide +kernel
theorem dX11_init_392 : decode cX11_init 392 = .ok (.sipush 1024, 3) := by decide +kernel
theorem dX11_init_395 : decode cX11_init 395 = .ok (.iload_n 2, 1) := by decide +kernel
theorem dX11_init_396 : decode cX11_init 396 = .ok (.iadd, 1) := by decide +kernel
theorem dX11_init_397 : decode cX11_init 397 = .ok (.aload_n 0, 1) := by decide +kernel
theorem dX11_init_398 : decode cX11_init 398 = .ok (.getfield 20, 3) := by decide +kernel
theorem dX11_init_401 : decode cX11_init 401 = .ok (.iload_n 2, 1) := by decide +kernel
theorem dX11_init_402 : decode cX11_init 402 = .ok (.iaload, 1) := by decide +kernel
theorem dX11_init_403 : decode cX11_init 403 = .ok (.iastore, 1) := by decide +kernel
theorem dX11_init_404 : decode cX11_init 404 = .ok (.iinc 2 1, 3) := by decide +kernel
theorem dX11_init_407 : decode cX11_init 407 = .ok (.goto (-25), 3) := by decide +kernel
theorem dX11_init_410 : decode cX11_init 410 = .ok (.return_, 1) := by decide +kernel
theorem dX11_slotAt_0 : decode cX11_slotAt 0 = .ok (.sipush 128, 3) := by decide +kernel
theorem dX11_slotAt_3 : decode cX11_slotAt 3 = .ok (.iload_n 0, 1) := by decide +kernel
theorem dX11_slotAt_4 : decode cX11_slotAt 4 = .ok (.ifCond .ne 8, 3) := by decide +kernel
theorem dX11_slotAt_7 : decode cX11_slotAt 7 = .ok (.bipush 10, 2) := by decide +kernel
theorem dX11_slotAt_9 : decode cX11_slotAt 9 = .ok (.goto 5, 3) := by decide +kernel
theorem dX11_slotAt_12 : decode cX11_slotAt 12 = .ok (.bipush 18, 2) := by decide +kernel
theorem dX11_slotAt_14 : decode cX11_slotAt 14 = .ok (.imul, 1) := by decide +kernel
theorem dX11_slotAt_15 : decode cX11_slotAt 15 = .ok (.ireturn, 1) := by decide +kernel
theorem dX11_digestBegin_0 : decode cX11_digestBegin 0 = .ok (.aload_n 0, 1) := by decide +kernel
theorem dX11_digestBegin_1 : decode cX11_digestBegin 1 = .ok (.ldc2_w 106, 3) := by decide +kernel
theorem dX11_digestBegin_4 : decode cX11_digestBegin 4 = .ok (.putfield 108, 3) := by decide +kernel
theorem dX11_digestBegin_7 : decode cX11_digestBegin 7 = .ok (.return_, 1) := by decide +kernel
theorem dX11_digestByte_0 : decode cX11_digestByte 0 = .ok (.aload_n 0, 1) := by decide +kernel
theorem dX11_digestByte_1 : decode cX11_digestByte 1 = .ok (.aload_n 0, 1) := by decide +kernel
theorem dX11_digestByte_2 : decode cX11_digestByte 2 = .ok (.getfield 108, 3) := by decide +kernel
theorem dX11_digestByte_5 : decode cX11_digestByte 5 = .ok (.iload_n 1, 1) := by decide +kernel
theorem dX11_digestByte_6 : decode cX11_digestByte 6 = .ok (.i2l, 1) := by decide +kernel
theorem dX11_digestByte_7 : decode cX11_digestByte 7 = .ok (.lxor, 1) := by decide +kernel
theorem dX11_digestByte_8 : decode cX11_digestByte 8 = .ok (.ldc2_w 111, 3) := by decide +kernel
theorem dX11_digestByte_11 : decode cX11_digestByte 11 = .ok (.lmul, 1) := by decide +kernel
theorem dX11_digestByte_12 : decode cX11_digestByte 12 = .ok (.putfield 108, 3) := by decide +kernel
theorem dX11_digestByte_15 : decode cX11_digestByte 15 = .ok (.aload_n 0, 1) := by decide +kernel
theorem dX11_digestByte_16 : decode cX11_digestByte 16 = .ok (.aload_n 0, 1) := by decide +kernel
theorem dX11_digestByte_17 : decode cX11_digestByte 17 = .ok (.getfield 108, 3) := by decide +kernel
theorem dX11_digestByte_20 : decode cX11_digestByte 20 = .ok (.aload_n 0, 1) := by decide +kernel
theorem dX11_digestByte_21 : decode cX11_digestByte 21 = .ok (.getfield 108, 3) := by decide +kernel
theorem dX11_digestByte_24 : decode cX11_digestByte 24 = .ok (.bipush 29, 2) := by decide +kernel
theorem dX11_digestByte_26 : decode cX11_digestByte 26 = .ok (.lushr, 1) := by decide +kernel
theorem dX11_digestByte_27 : decode cX11_digestByte 27 = .ok (.lxor, 1) := by decide +kernel
theorem dX11_digestByte_28 : decode cX11_digestByte 28 = .ok (.putfield 108, 3) := by decide +kernel
theorem dX11_digestByte_31 : decode cX11_digestByte 31 = .ok (.return_, 1) := by decide +kernel
theorem dX11_slotDigest_0 : decode cX11_slotDigest 0 = .ok (.aload_n 0, 1) := by decide +kernel
theorem dX11_slotDigest_1 : decode cX11_slotDigest 1 = .ok (.invokevirtual 113, 3) := by decide +kernel
theorem dX11_slotDigest_4 : decode cX11_slotDigest 4 = .ok (.iconst 0, 1) := by decide +kernel
theorem dX11_slotDigest_5 : decode cX11_slotDigest 5 = .ok (.istore_n 3, 1) := by decide +kernel
theorem dX11_slotDigest_6 : decode cX11_slotDigest 6 = .ok (.iload_n 3, 1) := by decide +kernel
theorem dX11_slotDigest_7 : decode cX11_slotDigest 7 = .ok (.iload_n 2, 1) := by decide +kernel
theorem dX11_slotDigest_8 : decode cX11_slotDigest 8 = .ok (.if_icmp .ge 24, 3) := by decide +kernel
theorem dX11_slotDigest_11 : decode cX11_slotDigest 11 = .ok (.aload_n 0, 1) := by decide +kernel
theorem dX11_slotDigest_12 : decode cX11_slotDigest 12 = .ok (.aload_n 0, 1) := by decide +kernel
theorem dX11_slotDigest_13 : decode cX11_slotDigest 13 = .ok (.getfield 7, 3) := by decide +kernel
theorem dX11_slotDigest_16 : decode cX11_slotDigest 16 = .ok (.iload_n 1, 1) := by decide +kernel
theorem dX11_slotDigest_17 : decode cX11_slotDigest 17 = .ok (.invokestatic 84, 3) := by decide +kernel
theorem dX11_slotDigest_20 : decode cX11_slotDigest 20 = .ok (.iload_n 3, 1) := by decide +kernel
theorem dX11_slotDigest_21 : decode cX11_slotDigest 21 = .ok (.iadd, 1) := by decide +kernel
theorem dX11_slotDigest_22 : decode cX11_slotDigest 22 = .ok (.iaload, 1) := by decide +kernel
theorem dX11_slotDigest_23 : decode cX11_slotDigest 23 = .ok (.invokevirtual 116, 3) := by decide +kernel
theorem dX11_slotDigest_26 : decode cX11_slotDigest 26 = .ok (.iinc 3 1, 3) := by decide +kernel
theorem dX11_slotDigest_29 : decode cX11_slotDigest 29 = .ok (.goto (-23), 3) := by decide +kernel
theorem dX11_slotDigest_32 : decode cX11_slotDigest 32 = .ok (.aload_n 0, 1) := by decide +kernel
theorem dX11_slotDigest_33 : decode cX11_slotDigest 33 = .ok (.getfield 108, 3) := by decide +kernel
theorem dX11_slotDigest_36 : decode cX11_slotDigest 36 = .ok (.ldc2_w 119, 3) := by decide +kernel
theorem dX11_slotDigest_39 : decode cX11_slotDigest 39 = .ok (.land, 1) := by decide +kernel
theorem dX11_slotDigest_40 : decode cX11_slotDigest 40 = .ok (.lreturn, 1) := by decide +kernel
theorem dX11_feed_0 : decode cX11_feed 0 = .ok (.aload_n 0, 1) := by decide +kernel
theorem dX11_feed_1 : decode cX11_feed 1 = .ok (.getfield 121, 3) := by decide +kernel
theorem dX11_feed_4 : decode cX11_feed 4 = .ok (.bipush 20, 2) := by decide +kernel
theorem dX11_feed_6 : decode cX11_feed 6 = .ok (.iadd, 1) := by decide +kernel
theorem dX11_feed_7 : decode cX11_feed 7 = .ok (.sipush 300, 3) := by decide +kernel
theorem dX11_feed_10 : decode cX11_feed 10 = .ok (.if_icmp .le 6, 3) := by decide +kernel
theorem dX11_feed_13 : decode cX11_feed 13 = .ok (.bipush (-5), 2) := by decide +kernel
theorem dX11_feed_15 : decode cX11_feed 15 = .ok (.ireturn, 1) := by decide +kernel
theorem dX11_feed_16 : decode cX11_feed 16 = .ok (.iconst 0, 1) := by decide +kernel
theorem dX11_feed_17 : decode cX11_feed 17 = .ok (.istore 6, 2) := by decide +kernel
theorem dX11_feed_19 : decode cX11_feed 19 = .ok (.iload 6, 2) := by decide +kernel
theorem dX11_feed_21 : decode cX11_feed 21 = .ok (.bipush 20, 2) := by decide +kernel
theorem dX11_feed_23 : decode cX11_feed 23 = .ok (.if_icmp .ge 93, 3) := by decide +kernel
theorem dX11_feed_26 : decode cX11_feed 26 = .ok (.iload 6, 2) := by decide +kernel
theorem dX11_feed_28 : decode cX11_feed 28 = .ok (.iconst 4, 1) := by decide +kernel
theorem dX11_feed_29 : decode cX11_feed 29 = .ok (.if_icmp .ge 7, 3) := by decide +kernel
theorem dX11_feed_32 : decode cX11_feed 32 = .ok (.iload_n 1, 1) := by decide +kernel
theorem dX11_feed_33 : decode cX11_feed 33 = .ok (.goto 39, 3) := by decide +kernel
theorem dX11_feed_36 : decode cX11_feed 36 = .ok (.iload 6, 2) := by decide +kernel
theorem dX11_feed_38 : decode cX11_feed 38 = .ok (.bipush 8, 2) := by decide +kernel
theorem dX11_feed_40 : decode cX11_feed 40 = .ok (.if_icmp .ge 7, 3) := by decide +kernel
theorem dX11_feed_43 : decode cX11_feed 43 = .ok (.iload_n 2, 1) := by decide +kernel
theorem dX11_feed_44 : decode cX11_feed 44 = .ok (.goto 28, 3) := by decide +kernel
theorem dX11_feed_47 : decode cX11_feed 47 = .ok (.iload 6, 2) := by decide +kernel
theorem dX11_feed_49 : decode cX11_feed 49 = .ok (.bipush 12, 2) := by decide +kernel
theorem dX11_feed_51 : decode cX11_feed 51 = .ok (.if_icmp .ge 7, 3) := by decide +kernel
theorem dX11_feed_54 : decode cX11_feed 54 = .ok (.iload_n 3, 1) := by decide +kernel
theorem dX11_feed_55 : decode cX11_feed 55 = .ok (.goto 17, 3) := by decide +kernel
theorem dX11_feed_58 : decode cX11_feed 58 = .ok (.iload 6, 2) := by decide +kernel
theorem dX11_feed_60 : decode cX11_feed 60 = .ok (.bipush 16, 2) := by decide +kernel
theorem dX11_feed_62 : decode cX11_feed 62 = .ok (.if_icmp .ge 8, 3) := by decide +kernel
theorem dX11_feed_65 : decode cX11_feed 65 = .ok (.iload 4, 2) := by decide +kernel
theorem dX11_feed_67 : decode cX11_feed 67 = .ok (.goto 5, 3) := by decide +kernel
theorem dX11_feed_70 : decode cX11_feed 70 = .ok (.iload 5, 2) := by decide +kernel
theorem dX11_feed_72 : decode cX11_feed 72 = .ok (.istore 7, 2) := by decide +kernel
theorem dX11_feed_74 : decode cX11_feed 74 = .ok (.aload_n 0, 1) := by decide +kernel
theorem dX11_feed_75 : decode cX11_feed 75 = .ok (.getfield 17, 3) := by decide +kernel
theorem dX11_feed_78 : decode cX11_feed 78 = .ok (.aload_n 0, 1) := by decide +kernel
theorem dX11_feed_79 : decode cX11_feed 79 = .ok (.getfield 121, 3) := by decide +kernel
theorem dX11_feed_82 : decode cX11_feed 82 = .ok (.iload 7, 2) := by decide +kernel
theorem dX11_feed_84 : decode cX11_feed 84 = .ok (.bipush 24, 2) := by decide +kernel
theorem dX11_feed_86 : decode cX11_feed 86 = .ok (.bipush 8, 2) := by decide +kernel
theorem dX11_feed_88 : decode cX11_feed 88 = .ok (.iload 6, 2) := by decide +kernel
theorem dX11_feed_90 : decode cX11_feed 90 = .ok (.iconst 4, 1) := by decide +kernel
theorem dX11_feed_91 : decode cX11_feed 91 = .ok (.irem, 1) := by decide +kernel
theorem dX11_feed_92 : decode cX11_feed 92 = .ok (.imul, 1) := by decide +kernel
theorem dX11_feed_93 : decode cX11_feed 93 = .ok (.isub, 1) := by decide +kernel
theorem dX11_feed_94 : decode cX11_feed 94 = .ok (.ishr, 1) := by decide +kernel
theorem dX11_feed_95 : decode cX11_feed 95 = .ok (.sipush 255, 3) := by decide +kernel
theorem dX11_feed_98 : decode cX11_feed 98 = .ok (.iand, 1) := by decide +kernel
theorem dX11_feed_99 : decode cX11_feed 99 = .ok (.iastore, 1) := by decide +kernel
theorem dX11_feed_100 : decode cX11_feed 100 = .ok (.aload_n 0, 1) := by decide +kernel
theorem dX11_feed_101 : decode cX11_feed 101 = .ok (.dup, 1) := by decide +kernel
theorem dX11_feed_102 : decode cX11_feed 102 = .ok (.getfield 121, 3) := by decide +kernel
theorem dX11_feed_105 : decode cX11_feed 105 = .ok (.iconst 1, 1) := by decide +kernel
theorem dX11_feed_106 : decode cX11_feed 106 = .ok (.iadd, 1) := by decide +kernel
theorem dX11_feed_107 : decode cX11_feed 107 = .ok (.putfield 121, 3) := by decide +kernel
theorem dX11_feed_110 : decode cX11_feed 110 = .ok (.iinc 6 1, 3) := by decide +kernel
theorem dX11_feed_113 : decode cX11_feed 113 = .ok (.goto (-94), 3) := by decide +kernel
theorem dX11_feed_116 : decode cX11_feed 116 = .ok (.aload_n 0, 1) := by decide +kernel
theorem dX11_feed_117 : decode cX11_feed 117 = .ok (.getfield 121, 3) := by decide +kernel
theorem dX11_feed_120 : decode cX11_feed 120 = .ok (.ireturn, 1) := by decide +kernel
theorem dX11_end_0 : decode cX11_end 0 = .ok (.iload_n 1, 1) := by decide +kernel
theorem dX11_end_1 : decode cX11_end 1 = .ok (.ifCond .lt 18, 3) := by decide +kernel
theorem dX11_end_4 : decode cX11_end 4 = .ok (.iload_n 1, 1) := by decide +kernel
theorem dX11_end_5 : decode cX11_end 5 = .ok (.bipush 20, 2) := by decide +kernel
theorem dX11_end_7 : decode cX11_end 7 = .ok (.if_icmp .gt 12, 3) := by decide +kernel
theorem dX11_end_10 : decode cX11_end 10 = .ok (.aload_n 0, 1) := by decide +kernel
theorem dX11_end_11 : decode cX11_end 11 = .ok (.getfield 121, 3) := by decide +kernel
theorem dX11_end_14 : decode cX11_end 14 = .ok (.bipush 20, 2) := by decide +kernel
theorem dX11_end_16 : decode cX11_end 16 = .ok (.if_icmp .ge 5, 3) := by decide +kernel
theorem dX11_end_19 : decode cX11_end 19 = .ok (.iconst (-1), 1) := by decide +kernel
theorem dX11_end_20 : decode cX11_end 20 = .ok (.ireturn, 1) := by decide +kernel
theorem dX11_end_21 : decode cX11_end 21 = .ok (.aload_n 0, 1) := by decide +kernel
theorem dX11_end_22 : decode cX11_end 22 = .ok (.aload_n 0, 1) := by decide +kernel
theorem dX11_end_23 : decode cX11_end 23 = .ok (.getfield 121, 3) := by decide +kernel
theorem dX11_end_26 : decode cX11_end 26 = .ok (.bipush 20, 2) := by decide +kernel
theorem dX11_end_28 : decode cX11_end 28 = .ok (.isub, 1) := by decide +kernel
theorem dX11_end_29 : decode cX11_end 29 = .ok (.iload_n 1, 1) := by decide +kernel
theorem dX11_end_30 : decode cX11_end 30 = .ok (.iadd, 1) := by decide +kernel
theorem dX11_end_31 : decode cX11_end 31 = .ok (.putfield 121, 3) := by decide +kernel
theorem dX11_end_34 : decode cX11_end 34 = .ok (.aload_n 0, 1) := by decide +kernel
theorem dX11_end_35 : decode cX11_end 35 = .ok (.getfield 121, 3) := by decide +kernel
theorem dX11_end_38 : decode cX11_end 38 = .ok (.ireturn, 1) := by decide +kernel
theorem dX11_byteOf_0 : decode cX11_byteOf 0 = .ok (.iload_n 1, 1) := by decide +kernel
theorem dX11_byteOf_1 : decode cX11_byteOf 1 = .ok (.ifCond .lt 11, 3) := by decide +kernel
theorem dX11_byteOf_4 : decode cX11_byteOf 4 = .ok (.iload_n 1, 1) := by decide +kernel
theorem dX11_byteOf_5 : decode cX11_byteOf 5 = .ok (.aload_n 0, 1) := by decide +kernel
theorem dX11_byteOf_6 : decode cX11_byteOf 6 = .ok (.getfield 121, 3) := by decide +kernel
theorem dX11_byteOf_9 : decode cX11_byteOf 9 = .ok (.if_icmp .lt 7, 3) := by decide +kernel
theorem dX11_byteOf_12 : decode cX11_byteOf 12 = .ok (.iconst (-1), 1) := by decide +kernel
theorem dX11_byteOf_13 : decode cX11_byteOf 13 = .ok (.goto 9, 3) := by decide +kernel
theorem dX11_byteOf_16 : decode cX11_byteOf 16 = .ok (.aload_n 0, 1) := by decide +kernel
theorem dX11_byteOf_17 : decode cX11_byteOf 17 = .ok (.getfield 17, 3) := by decide +kernel
theorem dX11_byteOf_20 : decode cX11_byteOf 20 = .ok (.iload_n 1, 1) := by decide +kernel
theorem dX11_byteOf_21 : decode cX11_byteOf 21 = .ok (.iaload, 1) := by decide +kernel
theorem dX11_byteOf_22 : decode cX11_byteOf 22 = .ok (.ireturn, 1) := by decide +kernel
theorem dX11_spoil_0 : decode cX11_spoil 0 = .ok (.iload_n 1, 1) := by decide +kernel
theorem dX11_spoil_1 : decode cX11_spoil 1 = .ok (.ifCond .lt 23, 3) := by decide +kernel
theorem dX11_spoil_4 : decode cX11_spoil 4 = .ok (.iload_n 1, 1) := by decide +kernel
theorem dX11_spoil_5 : decode cX11_spoil 5 = .ok (.aload_n 0, 1) := by decide +kernel
theorem dX11_spoil_6 : decode cX11_spoil 6 = .ok (.getfield 121, 3) := by decide +kernel
theorem dX11_spoil_9 : decode cX11_spoil 9 = .ok (.if_icmp .ge 15, 3) := by decide +kernel
theorem dX11_spoil_12 : decode cX11_spoil 12 = .ok (.iload_n 2, 1) := by decide +kernel
theorem dX11_spoil_13 : decode cX11_spoil 13 = .ok (.iconst 1, 1) := by decide +kernel
theorem dX11_spoil_14 : decode cX11_spoil 14 = .ok (.if_icmp .lt 10, 3) := by decide +kernel
theorem dX11_spoil_17 : decode cX11_spoil 17 = .ok (.iload_n 2, 1) := by decide +kernel
theorem dX11_spoil_18 : decode cX11_spoil 18 = .ok (.sipush 255, 3) := by decide +kernel
theorem dX11_spoil_21 : decode cX11_spoil 21 = .ok (.if_icmp .le 5, 3) := by decide +kernel
theorem dX11_spoil_24 : decode cX11_spoil 24 = .ok (.iconst (-1), 1) := by decide +kernel
theorem dX11_spoil_25 : decode cX11_spoil 25 = .ok (.ireturn, 1) := by decide +kernel
theorem dX11_spoil_26 : decode cX11_spoil 26 = .ok (.aload_n 0, 1) := by decide +kernel
theorem dX11_spoil_27 : decode cX11_spoil 27 = .ok (.getfield 17, 3) := by decide +kernel
theorem dX11_spoil_30 : decode cX11_spoil 30 = .ok (.iload_n 1, 1) := by decide +kernel
theorem dX11_spoil_31 : decode cX11_spoil 31 = .ok (.dup2, 1) := by decide +kernel
theorem dX11_spoil_32 : decode cX11_spoil 32 = .ok (.iaload, 1) := by decide +kernel
theorem dX11_spoil_33 : decode cX11_spoil 33 = .ok (.iload_n 2, 1) := by decide +kernel
theorem dX11_spoil_34 : decode cX11_spoil 34 = .ok (.ixor, 1) := by decide +kernel
theorem dX11_spoil_35 : decode cX11_spoil 35 = .ok (.iastore, 1) := by decide +kernel
theorem dX11_spoil_36 : decode cX11_spoil 36 = .ok (.aload_n 0, 1) := by decide +kernel
theorem dX11_spoil_37 : decode cX11_spoil 37 = .ok (.getfield 17, 3) := by decide +kernel
theorem dX11_spoil_40 : decode cX11_spoil 40 = .ok (.iload_n 1, 1) := by decide +kernel
theorem dX11_spoil_41 : decode cX11_spoil 41 = .ok (.iaload, 1) := by decide +kernel
theorem dX11_spoil_42 : decode cX11_spoil 42 = .ok (.ireturn, 1) := by decide +kernel
theorem dX11_digest_0 : decode cX11_digest 0 = .ok (.aload_n 0, 1) := by decide +kernel
theorem dX11_digest_1 : decode cX11_digest 1 = .ok (.invokevirtual 113, 3) := by decide +kernel
theorem dX11_digest_4 : decode cX11_digest 4 = .ok (.iconst 0, 1) := by decide +kernel
theorem dX11_digest_5 : decode cX11_digest 5 = .ok (.istore_n 1, 1) := by decide +kernel
theorem dX11_digest_6 : decode cX11_digest 6 = .ok (.iload_n 1, 1) := by decide +kernel
theorem dX11_digest_7 : decode cX11_digest 7 = .ok (.aload_n 0, 1) := by decide +kernel
theorem dX11_digest_8 : decode cX11_digest 8 = .ok (.getfield 121, 3) := by decide +kernel
theorem dX11_digest_11 : decode cX11_digest 11 = .ok (.if_icmp .ge 19, 3) := by decide +kernel
theorem dX11_digest_14 : decode cX11_digest 14 = .ok (.aload_n 0, 1) := by decide +kernel
theorem dX11_digest_15 : decode cX11_digest 15 = .ok (.aload_n 0, 1) := by decide +kernel
theorem dX11_digest_16 : decode cX11_digest 16 = .ok (.getfield 17, 3) := by decide +kernel
theorem dX11_digest_19 : decode cX11_digest 19 = .ok (.iload_n 1, 1) := by decide +kernel
theorem dX11_digest_20 : decode cX11_digest 20 = .ok (.iaload, 1) := by decide +kernel
theorem dX11_digest_21 : decode cX11_digest 21 = .ok (.invokevirtual 116, 3) := by decide +kernel
theorem dX11_digest_24 : decode cX11_digest 24 = .ok (.iinc 1 1, 3) := by decide +kernel
theorem dX11_digest_27 : decode cX11_digest 27 = .ok (.goto (-21), 3) := by decide +kernel
theorem dX11_digest_30 : decode cX11_digest 30 = .ok (.aload_n 0, 1) := by decide +kernel
theorem dX11_digest_31 : decode cX11_digest 31 = .ok (.getfield 108, 3) := by decide +kernel
theorem dX11_digest_34 : decode cX11_digest 34 = .ok (.lreturn, 1) := by decide +kernel
theorem dX11_hasPower_0 : decode cX11_hasPower 0 = .ok (.aload_n 0, 1) := by decide +kernel
theorem dX11_hasPower_1 : decode cX11_hasPower 1 = .ok (.getfield 13, 3) := by decide +kernel
theorem dX11_hasPower_4 : decode cX11_hasPower 4 = .ok (.ifCond .ne 30, 3) := by decide +kernel
theorem dX11_hasPower_7 : decode cX11_hasPower 7 = .ok (.aload_n 0, 1) := by decide +kernel
theorem dX11_hasPower_8 : decode cX11_hasPower 8 = .ok (.iconst (-1), 1) := by decide +kernel
theorem dX11_hasPower_9 : decode cX11_hasPower 9 = .ok (.putfield 13, 3) := by decide +kernel
theorem dX11_hasPower_12 : decode cX11_hasPower 12 = .ok (.aload_n 0, 1) := by decide +kernel
theorem dX11_hasPower_13 : decode cX11_hasPower 13 = .ok (.iconst 1, 1) := by decide +kernel
theorem dX11_hasPower_14 : decode cX11_hasPower 14 = .ok (.putfield 124, 3) := by decide +kernel
theorem dX11_hasPower_17 : decode cX11_hasPower 17 = .ok (.aload_n 0, 1) := by decide +kernel
theorem dX11_hasPower_18 : decode cX11_hasPower 18 = .ok (.iconst 0, 1) := by decide +kernel
theorem dX11_hasPower_19 : decode cX11_hasPower 19 = .ok (.putfield 128, 3) := by decide +kernel
theorem dX11_hasPower_22 : decode cX11_hasPower 22 = .ok (.aload_n 0, 1) := by decide +kernel
theorem dX11_hasPower_23 : decode cX11_hasPower 23 = .ok (.iconst 0, 1) := by decide +kernel
theorem dX11_hasPower_24 : decode cX11_hasPower 24 = .ok (.putfield 131, 3) := by decide +kernel
theorem dX11_hasPower_27 : decode cX11_hasPower 27 = .ok (.aload_n 0, 1) := by decide +kernel
theorem dX11_hasPower_28 : decode cX11_hasPower 28 = .ok (.iconst 0, 1) := by decide +kernel
theorem dX11_hasPower_29 : decode cX11_hasPower 29 = .ok (.putfield 134, 3) := by decide +kernel
theorem dX11_hasPower_32 : decode cX11_hasPower 32 = .ok (.iconst 0, 1) := by decide +kernel
theorem dX11_hasPower_33 : decode cX11_hasPower 33 = .ok (.ireturn, 1) := by decide +kernel
theorem dX11_hasPower_34 : decode cX11_hasPower 34 = .ok (.aload_n 0, 1) := by decide +kernel
theorem dX11_hasPower_35 : decode cX11_hasPower 35 = .ok (.aload_n 0, 1) := by decide +kernel
theorem dX11_hasPower_36 : decode cX11_hasPower 36 = .ok (.getfield 13, 3) := by decide +kernel
theorem dX11_hasPower_39 : decode cX11_hasPower 39 = .ok (.ifCond .le 12, 3) := by decide +kernel
theorem dX11_hasPower_42 : decode cX11_hasPower 42 = .ok (.aload_n 0, 1) := by decide +kernel
theorem dX11_hasPower_43 : decode cX11_hasPower 43 = .ok (.getfield 13, 3) := by decide +kernel
theorem dX11_hasPower_46 : decode cX11_hasPower 46 = .ok (.iconst 1, 1) := by decide +kernel
theorem dX11_hasPower_47 : decode cX11_hasPower 47 = .ok (.isub, 1) := by decide +kernel
theorem dX11_hasPower_48 : decode cX11_hasPower 48 = .ok (.goto 7, 3) := by decide +kernel
theorem dX11_hasPower_51 : decode cX11_hasPower 51 = .ok (.aload_n 0, 1) := by decide +kernel
theorem dX11_hasPower_52 : decode cX11_hasPower 52 = .ok (.getfield 13, 3) := by decide +kernel
theorem dX11_hasPower_55 : decode cX11_hasPower 55 = .ok (.putfield 13, 3) := by decide +kernel
theorem dX11_hasPower_58 : decode cX11_hasPower 58 = .ok (.iconst 1, 1) := by decide +kernel
theorem dX11_hasPower_59 : decode cX11_hasPower 59 = .ok (.ireturn, 1) := by decide +kernel
theorem dX11_writePage_0 : decode cX11_writePage 0 = .ok (.aload_n 0, 1) := by decide +kernel
theorem dX11_writePage_1 : decode cX11_writePage 1 = .ok (.getfield 124, 3) := by decide +kernel
theorem dX11_writePage_4 : decode cX11_writePage 4 = .ok (.ifCond .eq 4, 3) := by decide +kernel
theorem dX11_writePage_7 : decode cX11_writePage 7 = .ok (.return_, 1) := by decide +kernel
theorem dX11_writePage_8 : decode cX11_writePage 8 = .ok (.aload_n 0, 1) := by decide +kernel
theorem dX11_writePage_9 : decode cX11_writePage 9 = .ok (.dup, 1) := by decide +kernel
theorem dX11_writePage_10 : decode cX11_writePage 10 = .ok (.getfield 137, 3) := by decide +kernel
theorem dX11_writePage_13 : decode cX11_writePage 13 = .ok (.iconst 1, 1) := by decide +kernel
theorem dX11_writePage_14 : decode cX11_writePage 14 = .ok (.iadd, 1) := by decide +kernel
theorem dX11_writePage_15 : decode cX11_writePage 15 = .ok (.putfield 137, 3) := by decide +kernel
theorem dX11_writePage_18 : decode cX11_writePage 18 = .ok (.aload_n 0, 1) := by decide +kernel
theorem dX11_writePage_19 : decode cX11_writePage 19 = .ok (.invokevirtual 140, 3) := by decide +kernel
theorem dX11_writePage_22 : decode cX11_writePage 22 = .ok (.ifCond .eq 34, 3) := by decide +kernel
theorem dX11_writePage_25 : decode cX11_writePage 25 = .ok (.iconst 0, 1) := by decide +kernel
theorem dX11_writePage_26 : decode cX11_writePage 26 = .ok (.istore_n 2, 1) := by decide +kernel
theorem dX11_writePage_27 : decode cX11_writePage 27 = .ok (.iload_n 2, 1) := by decide +kernel
theorem dX11_writePage_28 : decode cX11_writePage 28 = .ok (.bipush 32, 2) := by decide +kernel
theorem dX11_writePage_30 : decode cX11_writePage 30 = .ok (.if_icmp .ge 26, 3) := by decide +kernel
theorem dX11_writePage_33 : decode cX11_writePage 33 = .ok (.aload_n 0, 1) := by decide +kernel
theorem dX11_writePage_34 : decode cX11_writePage 34 = .ok (.getfield 7, 3) := by decide +kernel
theorem dX11_writePage_37 : decode cX11_writePage 37 = .ok (.iload_n 1, 1) := by decide +kernel
theorem dX11_writePage_38 : decode cX11_writePage 38 = .ok (.iload_n 2, 1) := by decide +kernel
theorem dX11_writePage_39 : decode cX11_writePage 39 = .ok (.iadd, 1) := by decide +kernel
theorem dX11_writePage_40 : decode cX11_writePage 40 = .ok (.dup2, 1) := by decide +kernel
theorem dX11_writePage_41 : decode cX11_writePage 41 = .ok (.iaload, 1) := by decide +kernel
theorem dX11_writePage_42 : decode cX11_writePage 42 = .ok (.aload_n 0, 1) := by decide +kernel
theorem dX11_writePage_43 : decode cX11_writePage 43 = .ok (.getfield 20, 3) := by decide +kernel
theorem dX11_writePage_46 : decode cX11_writePage 46 = .ok (.iload_n 2, 1) := by decide +kernel
theorem dX11_writePage_47 : decode cX11_writePage 47 = .ok (.iaload, 1) := by decide +kernel
theorem dX11_writePage_48 : decode cX11_writePage 48 = .ok (.iand, 1) := by decide +kernel
theorem dX11_writePage_49 : decode cX11_writePage 49 = .ok (.iastore, 1) := by decide +kernel
theorem dX11_writePage_50 : decode cX11_writePage 50 = .ok (.iinc 2 1, 3) := by decide +kernel
theorem dX11_writePage_53 : decode cX11_writePage 53 = .ok (.goto (-26), 3) := by decide +kernel
theorem dX11_writePage_56 : decode cX11_writePage 56 = .ok (.return_, 1) := by decide +kernel
theorem dX11_erase_0 : decode cX11_erase 0 = .ok (.aload_n 0, 1) := by decide +kernel
theorem dX11_erase_1 : decode cX11_erase 1 = .ok (.getfield 124, 3) := by decide +kernel
theorem dX11_erase_4 : decode cX11_erase 4 = .ok (.ifCond .eq 4, 3) := by decide +kernel
theorem dX11_erase_7 : decode cX11_erase 7 = .ok (.return_, 1) := by decide +kernel
theorem dX11_erase_8 : decode cX11_erase 8 = .ok (.aload_n 0, 1) := by decide +kernel
theorem dX11_erase_9 : decode cX11_erase 9 = .ok (.dup, 1) := by decide +kernel
theorem dX11_erase_10 : decode cX11_erase 10 = .ok (.getfield 144, 3) := by decide +kernel
theorem dX11_erase_13 : decode cX11_erase 13 = .ok (.iconst 1, 1) := by decide +kernel
theorem dX11_erase_14 : decode cX11_erase 14 = .ok (.iadd, 1) := by decide +kernel
theorem dX11_erase_15 : decode cX11_erase 15 = .ok (.putfield 144, 3) := by decide +kernel
theorem dX11_erase_18 : decode cX11_erase 18 = .ok (.aload_n 0, 1) := by decide +kernel
theorem dX11_erase_19 : decode cX11_erase 19 = .ok (.invokevirtual 140, 3) := by decide +kernel
theorem dX11_erase_22 : decode cX11_erase 22 = .ok (.istore_n 2, 1) := by decide +kernel
theorem dX11_erase_23 : decode cX11_erase 23 = .ok (.iconst 0, 1) := by decide +kernel
theorem dX11_erase_24 : decode cX11_erase 24 = .ok (.istore_n 3, 1) := by decide +kernel
theorem dX11_erase_25 : decode cX11_erase 25 = .ok (.iload_n 3, 1) := by decide +kernel
theorem dX11_erase_26 : decode cX11_erase 26 = .ok (.sipush 128, 3) := by decide +kernel
theorem dX11_erase_29 : decode cX11_erase 29 = .ok (.if_icmp .ge 69, 3) := by decide +kernel
theorem dX11_erase_32 : decode cX11_erase 32 = .ok (.sipush 128, 3) := by decide +kernel
theorem dX11_erase_35 : decode cX11_erase 35 = .ok (.iload_n 1, 1) := by decide +kernel
theorem dX11_erase_36 : decode cX11_erase 36 = .ok (.imul, 1) := by decide +kernel
theorem dX11_erase_37 : decode cX11_erase 37 = .ok (.iload_n 3, 1) := by decide +kernel
theorem dX11_erase_38 : decode cX11_erase 38 = .ok (.iadd, 1) := by decide +kernel
theorem dX11_erase_39 : decode cX11_erase 39 = .ok (.istore 4, 2) := by decide +kernel
theorem dX11_erase_41 : decode cX11_erase 41 = .ok (.iload_n 2, 1) := by decide +kernel
theorem dX11_erase_42 : decode cX11_erase 42 = .ok (.ifCond .eq 7, 3) := by decide +kernel
theorem dX11_erase_45 : decode cX11_erase 45 = .ok (.iconst 0, 1) := by decide +kernel
theorem dX11_erase_46 : decode cX11_erase 46 = .ok (.goto 18, 3) := by decide +kernel
theorem dX11_erase_49 : decode cX11_erase 49 = .ok (.aload_n 0, 1) := by decide +kernel
theorem dX11_erase_50 : decode cX11_erase 50 = .ok (.getfield 147, 3) := by decide +kernel
theorem dX11_erase_53 : decode cX11_erase 53 = .ok (.bipush 8, 2) := by decide +kernel
theorem dX11_erase_55 : decode cX11_erase 55 = .ok (.iload_n 3, 1) := by decide +kernel
theorem dX11_erase_56 : decode cX11_erase 56 = .ok (.iconst 4, 1) := by decide +kernel
theorem dX11_erase_57 : decode cX11_erase 57 = .ok (.irem, 1) := by decide +kernel
theorem dX11_erase_58 : decode cX11_erase 58 = .ok (.imul, 1) := by decide +kernel
theorem dX11_erase_59 : decode cX11_erase 59 = .ok (.ishr, 1) := by decide +kernel
theorem dX11_erase_60 : decode cX11_erase 60 = .ok (.sipush 255, 3) := by decide +kernel
theorem dX11_erase_63 : decode cX11_erase 63 = .ok (.iand, 1) := by decide +kernel
theorem dX11_erase_64 : decode cX11_erase 64 = .ok (.istore 5, 2) := by decide +kernel
theorem dX11_erase_66 : decode cX11_erase 66 = .ok (.aload_n 0, 1) := by decide +kernel
theorem dX11_erase_67 : decode cX11_erase 67 = .ok (.getfield 7, 3) := by decide +kernel
theorem dX11_erase_70 : decode cX11_erase 70 = .ok (.iload 4, 2) := by decide +kernel
theorem dX11_erase_72 : decode cX11_erase 72 = .ok (.aload_n 0, 1) := by decide +kernel
theorem dX11_erase_73 : decode cX11_erase 73 = .ok (.getfield 7, 3) := by decide +kernel
theorem dX11_erase_76 : decode cX11_erase 76 = .ok (.iload 4, 2) := by decide +kernel
theorem dX11_erase_78 : decode cX11_erase 78 = .ok (.iaload, 1) := by decide +kernel
theorem dX11_erase_79 : decode cX11_erase 79 = .ok (.iload 5, 2) := by decide +kernel
theorem dX11_erase_81 : decode cX11_erase 81 = .ok (.iand, 1) := by decide +kernel
theorem dX11_erase_82 : decode cX11_erase 82 = .ok (.sipush 255, 3) := by decide +kernel
theorem dX11_erase_85 : decode cX11_erase 85 = .ok (.iload 5, 2) := by decide +kernel
theorem dX11_erase_87 : decode cX11_erase 87 = .ok (.iconst (-1), 1) := by decide +kernel
theorem dX11_erase_88 : decode cX11_erase 88 = .ok (.ixor, 1) := by decide +kernel
theorem dX11_erase_89 : decode cX11_erase 89 = .ok (.iand, 1) := by decide +kernel
theorem dX11_erase_90 : decode cX11_erase 90 = .ok (.ior, 1) := by decide +kernel
theorem dX11_erase_91 : decode cX11_erase 91 = .ok (.iastore, 1) := by decide +kernel
theorem dX11_erase_92 : decode cX11_erase 92 = .ok (.iinc 3 1, 3) := by decide +kernel
theorem dX11_erase_95 : decode cX11_erase 95 = .ok (.goto (-70), 3) := by decide +kernel
theorem dX11_erase_98 : decode cX11_erase 98 = .ok (.return_, 1) := by decide +kernel
theorem dX11_flash_0 : decode cX11_flash 0 = .ok (.iload_n 1, 1) := by decide +kernel
theorem dX11_flash_1 : decode cX11_flash 1 = .ok (.ifCond .lt 19, 3) := by decide +kernel
theorem dX11_flash_4 : decode cX11_flash 4 = .ok (.iload_n 1, 1) := by decide +kernel
theorem dX11_flash_5 : decode cX11_flash 5 = .ok (.bipush 25, 2) := by decide +kernel
theorem dX11_flash_7 : decode cX11_flash 7 = .ok (.if_icmp .gt 13, 3) := by decide +kernel
theorem dX11_flash_10 : decode cX11_flash 10 = .ok (.iload_n 2, 1) := by decide +kernel
theorem dX11_flash_11 : decode cX11_flash 11 = .ok (.ifCond .lt 9, 3) := by decide +kernel
theorem dX11_flash_14 : decode cX11_flash 14 = .ok (.iload_n 2, 1) := by decide +kernel
theorem dX11_flash_15 : decode cX11_flash 15 = .ok (.bipush 127, 2) := by decide +kernel
theorem dX11_flash_17 : decode cX11_flash 17 = .ok (.if_icmp .le 7, 3) := by decide +kernel
theorem dX11_flash_20 : decode cX11_flash 20 = .ok (.iconst (-1), 1) := by decide +kernel
theorem dX11_flash_21 : decode cX11_flash 21 = .ok (.goto 15, 3) := by decide +kernel
theorem dX11_flash_24 : decode cX11_flash 24 = .ok (.aload_n 0, 1) := by decide +kernel
theorem dX11_flash_25 : decode cX11_flash 25 = .ok (.getfield 7, 3) := by decide +kernel
theorem dX11_flash_28 : decode cX11_flash 28 = .ok (.sipush 128, 3) := by decide +kernel
theorem dX11_flash_31 : decode cX11_flash 31 = .ok (.iload_n 1, 1) := by decide +kernel
theorem dX11_flash_32 : decode cX11_flash 32 = .ok (.imul, 1) := by decide +kernel
theorem dX11_flash_33 : decode cX11_flash 33 = .ok (.iload_n 2, 1) := by decide +kernel
theorem dX11_flash_34 : decode cX11_flash 34 = .ok (.iadd, 1) := by decide +kernel
theorem dX11_flash_35 : decode cX11_flash 35 = .ok (.iaload, 1) := by decide +kernel
theorem dX11_flash_36 : decode cX11_flash 36 = .ok (.ireturn, 1) := by decide +kernel
theorem dX11_wide_0 : decode cX11_wide 0 = .ok (.iconst 0, 1) := by decide +kernel
theorem dX11_wide_1 : decode cX11_wide 1 = .ok (.istore_n 3, 1) := by decide +kernel
theorem dX11_wide_2 : decode cX11_wide 2 = .ok (.iconst 0, 1) := by decide +kernel
theorem dX11_wide_3 : decode cX11_wide 3 = .ok (.istore 4, 2) := by decide +kernel
theorem dX11_wide_5 : decode cX11_wide 5 = .ok (.iload 4, 2) := by decide +kernel
theorem dX11_wide_7 : decode cX11_wide 7 = .ok (.iload_n 2, 1) := by decide +kernel
theorem dX11_wide_8 : decode cX11_wide 8 = .ok (.if_icmp .ge 24, 3) := by decide +kernel
theorem dX11_wide_11 : decode cX11_wide 11 = .ok (.iload_n 3, 1) := by decide +kernel
theorem dX11_wide_12 : decode cX11_wide 12 = .ok (.bipush 8, 2) := by decide +kernel
theorem dX11_wide_14 : decode cX11_wide 14 = .ok (.ishl, 1) := by decide +kernel
theorem dX11_wide_15 : decode cX11_wide 15 = .ok (.aload_n 0, 1) := by decide +kernel
theorem dX11_wide_16 : decode cX11_wide 16 = .ok (.getfield 7, 3) := by decide +kernel
theorem dX11_wide_19 : decode cX11_wide 19 = .ok (.iload_n 1, 1) := by decide +kernel
theorem dX11_wide_20 : decode cX11_wide 20 = .ok (.iload 4, 2) := by decide +kernel
theorem dX11_wide_22 : decode cX11_wide 22 = .ok (.iadd, 1) := by decide +kernel
theorem dX11_wide_23 : decode cX11_wide 23 = .ok (.iaload, 1) := by decide +kernel
theorem dX11_wide_24 : decode cX11_wide 24 = .ok (.ior, 1) := by decide +kernel
theorem dX11_wide_25 : decode cX11_wide 25 = .ok (.istore_n 3, 1) := by decide +kernel
theorem dX11_wide_26 : decode cX11_wide 26 = .ok (.iinc 4 1, 3) := by decide +kernel
theorem dX11_wide_29 : decode cX11_wide 29 = .ok (.goto (-24), 3) := by decide +kernel
theorem dX11_wide_32 : decode cX11_wide 32 = .ok (.iload_n 3, 1) := by decide +kernel
theorem dX11_wide_33 : decode cX11_wide 33 = .ok (.ireturn, 1) := by decide +kernel
theorem dX11_checkOf_0 : decode cX11_checkOf 0 = .ok (.aload_n 0, 1) := by decide +kernel
theorem dX11_checkOf_1 : decode cX11_checkOf 1 = .ok (.invokevirtual 113, 3) := by decide +kernel
theorem dX11_checkOf_4 : decode cX11_checkOf 4 = .ok (.iconst 0, 1) := by decide +kernel
theorem dX11_checkOf_5 : decode cX11_checkOf 5 = .ok (.istore_n 3, 1) := by decide +kernel
theorem dX11_checkOf_6 : decode cX11_checkOf 6 = .ok (.iload_n 3, 1) := by decide +kernel
theorem dX11_checkOf_7 : decode cX11_checkOf 7 = .ok (.iload_n 2, 1) := by decide +kernel
theorem dX11_checkOf_8 : decode cX11_checkOf 8 = .ok (.if_icmp .ge 21, 3) := by decide +kernel
theorem dX11_checkOf_11 : decode cX11_checkOf 11 = .ok (.aload_n 0, 1) := by decide +kernel
theorem dX11_checkOf_12 : decode cX11_checkOf 12 = .ok (.aload_n 0, 1) := by decide +kernel
theorem dX11_checkOf_13 : decode cX11_checkOf 13 = .ok (.getfield 7, 3) := by decide +kernel
theorem dX11_checkOf_16 : decode cX11_checkOf 16 = .ok (.iload_n 1, 1) := by decide +kernel
theorem dX11_checkOf_17 : decode cX11_checkOf 17 = .ok (.iload_n 3, 1) := by decide +kernel
theorem dX11_checkOf_18 : decode cX11_checkOf 18 = .ok (.iadd, 1) := by decide +kernel
theorem dX11_checkOf_19 : decode cX11_checkOf 19 = .ok (.iaload, 1) := by decide +kernel
theorem dX11_checkOf_20 : decode cX11_checkOf 20 = .ok (.invokevirtual 116, 3) := by decide +kernel
theorem dX11_checkOf_23 : decode cX11_checkOf 23 = .ok (.iinc 3 1, 3) := by decide +kernel
theorem dX11_checkOf_26 : decode cX11_checkOf 26 = .ok (.goto (-20), 3) := by decide +kernel
theorem dX11_checkOf_29 : decode cX11_checkOf 29 = .ok (.aload_n 0, 1) := by decide +kernel
theorem dX11_checkOf_30 : decode cX11_checkOf 30 = .ok (.invokevirtual 150, 3) := by decide +kernel
theorem dX11_checkOf_33 : decode cX11_checkOf 33 = .ok (.ireturn, 1) := by decide +kernel
theorem dX11_checkNow_0 : decode cX11_checkNow 0 = .ok (.aload_n 0, 1) := by decide +kernel
theorem dX11_checkNow_1 : decode cX11_checkNow 1 = .ok (.getfield 108, 3) := by decide +kernel
theorem dX11_checkNow_4 : decode cX11_checkNow 4 = .ok (.bipush 32, 2) := by decide +kernel
theorem dX11_checkNow_6 : decode cX11_checkNow 6 = .ok (.lushr, 1) := by decide +kernel
theorem dX11_checkNow_7 : decode cX11_checkNow 7 = .ok (.l2i, 1) := by decide +kernel
theorem dX11_checkNow_8 : decode cX11_checkNow 8 = .ok (.istore_n 1, 1) := by decide +kernel
theorem dX11_checkNow_9 : decode cX11_checkNow 9 = .ok (.iload_n 1, 1) := by decide +kernel
theorem dX11_checkNow_10 : decode cX11_checkNow 10 = .ok (.iconst (-1), 1) := by decide +kernel
theorem dX11_checkNow_11 : decode cX11_checkNow 11 = .ok (.if_icmp .ne 8, 3) := by decide +kernel
theorem dX11_checkNow_14 : decode cX11_checkNow 14 = .ok (.bipush (-2), 2) := by decide +kernel
theorem dX11_checkNow_16 : decode cX11_checkNow 16 = .ok (.goto 4, 3) := by decide +kernel
theorem dX11_checkNow_19 : decode cX11_checkNow 19 = .ok (.iload_n 1, 1) := by decide +kernel
theorem dX11_checkNow_20 : decode cX11_checkNow 20 = .ok (.ireturn, 1) := by decide +kernel
theorem dX11_six_0 : decode cX11_six 0 = .ok (.lconst 0, 1) := by decide +kernel
theorem dX11_six_1 : decode cX11_six 1 = .ok (.lstore_n 2, 1) := by decide +kernel
theorem dX11_six_2 : decode cX11_six 2 = .ok (.iconst 0, 1) := by decide +kernel
theorem dX11_six_3 : decode cX11_six 3 = .ok (.istore 4, 2) := by decide +kernel
theorem dX11_six_5 : decode cX11_six 5 = .ok (.iload 4, 2) := by decide +kernel
theorem dX11_six_7 : decode cX11_six 7 = .ok (.bipush 6, 2) := by decide +kernel
theorem dX11_six_9 : decode cX11_six 9 = .ok (.if_icmp .ge 25, 3) := by decide +kernel
theorem dX11_six_12 : decode cX11_six 12 = .ok (.lload_n 2, 1) := by decide +kernel
theorem dX11_six_13 : decode cX11_six 13 = .ok (.bipush 8, 2) := by decide +kernel
theorem dX11_six_15 : decode cX11_six 15 = .ok (.lshl, 1) := by decide +kernel
theorem dX11_six_16 : decode cX11_six 16 = .ok (.aload_n 0, 1) := by decide +kernel
theorem dX11_six_17 : decode cX11_six 17 = .ok (.getfield 7, 3) := by decide +kernel
theorem dX11_six_20 : decode cX11_six 20 = .ok (.iload_n 1, 1) := by decide +kernel
theorem dX11_six_21 : decode cX11_six 21 = .ok (.iload 4, 2) := by decide +kernel
theorem dX11_six_23 : decode cX11_six 23 = .ok (.iadd, 1) := by decide +kernel
theorem dX11_six_24 : decode cX11_six 24 = .ok (.iaload, 1) := by decide +kernel
theorem dX11_six_25 : decode cX11_six 25 = .ok (.i2l, 1) := by decide +kernel
theorem dX11_six_26 : decode cX11_six 26 = .ok (.lor, 1) := by decide +kernel
theorem dX11_six_27 : decode cX11_six 27 = .ok (.lstore_n 2, 1) := by decide +kernel
theorem dX11_six_28 : decode cX11_six 28 = .ok (.iinc 4 1, 3) := by decide +kernel
theorem dX11_six_31 : decode cX11_six 31 = .ok (.goto (-26), 3) := by decide +kernel
theorem dX11_six_34 : decode cX11_six 34 = .ok (.lload_n 2, 1) := by decide +kernel
theorem dX11_six_35 : decode cX11_six 35 = .ok (.lreturn, 1) := by decide +kernel
theorem dX11_isState_0 : decode cX11_isState 0 = .ok (.aload_n 0, 1) := by decide +kernel
theorem dX11_isState_1 : decode cX11_isState 1 = .ok (.iload_n 1, 1) := by decide +kernel
theorem dX11_isState_2 : decode cX11_isState 2 = .ok (.bipush 7, 2) := by decide +kernel
theorem dX11_isState_4 : decode cX11_isState 4 = .ok (.iadd, 1) := by decide +kernel
theorem dX11_isState_5 : decode cX11_isState 5 = .ok (.iconst 2, 1) := by decide +kernel
theorem dX11_isState_6 : decode cX11_isState 6 = .ok (.invokevirtual 154, 3) := by decide +kernel
theorem dX11_isState_9 : decode cX11_isState 9 = .ok (.istore_n 2, 1) := by decide +kernel
theorem dX11_isState_10 : decode cX11_isState 10 = .ok (.aload_n 0, 1) := by decide +kernel
theorem dX11_isState_11 : decode cX11_isState 11 = .ok (.iload_n 1, 1) := by decide +kernel
theorem dX11_isState_12 : decode cX11_isState 12 = .ok (.bipush 18, 2) := by decide +kernel
theorem dX11_isState_14 : decode cX11_isState 14 = .ok (.iadd, 1) := by decide +kernel
theorem dX11_isState_15 : decode cX11_isState 15 = .ok (.iconst 2, 1) := by decide +kernel
theorem dX11_isState_16 : decode cX11_isState 16 = .ok (.invokevirtual 154, 3) := by decide +kernel
theorem dX11_isState_19 : decode cX11_isState 19 = .ok (.istore_n 3, 1) := by decide +kernel
theorem dX11_isState_20 : decode cX11_isState 20 = .ok (.aload_n 0, 1) := by decide +kernel
theorem dX11_isState_21 : decode cX11_isState 21 = .ok (.getfield 7, 3) := by decide +kernel
theorem dX11_isState_24 : decode cX11_isState 24 = .ok (.iload_n 1, 1) := by decide +kernel
theorem dX11_isState_25 : decode cX11_isState 25 = .ok (.bipush 15, 2) := by decide +kernel
theorem dX11_isState_27 : decode cX11_isState 27 = .ok (.iadd, 1) := by decide +kernel
theorem dX11_isState_28 : decode cX11_isState 28 = .ok (.iaload, 1) := by decide +kernel
theorem dX11_isState_29 : decode cX11_isState 29 = .ok (.istore 4, 2) := by decide +kernel
theorem dX11_isState_31 : decode cX11_isState 31 = .ok (.aload_n 0, 1) := by decide +kernel
theorem dX11_isState_32 : decode cX11_isState 32 = .ok (.iload_n 1, 1) := by decide +kernel
theorem dX11_isState_33 : decode cX11_isState 33 = .ok (.iconst 4, 1) := by decide +kernel
theorem dX11_isState_34 : decode cX11_isState 34 = .ok (.invokevirtual 154, 3) := by decide +kernel
theorem dX11_isState_37 : decode cX11_isState 37 = .ok (.iconst 1, 1) := by decide +kernel
theorem dX11_isState_38 : decode cX11_isState 38 = .ok (.if_icmp .lt 49, 3) := by decide +kernel
theorem dX11_isState_41 : decode cX11_isState 41 = .ok (.aload_n 0, 1) := by decide +kernel
theorem dX11_isState_42 : decode cX11_isState 42 = .ok (.getfield 7, 3) := by decide +kernel
theorem dX11_isState_45 : decode cX11_isState 45 = .ok (.iload_n 1, 1) := by decide +kernel
theorem dX11_isState_46 : decode cX11_isState 46 = .ok (.iconst 4, 1) := by decide +kernel
theorem dX11_isState_47 : decode cX11_isState 47 = .ok (.iadd, 1) := by decide +kernel
theorem dX11_isState_48 : decode cX11_isState 48 = .ok (.iaload, 1) := by decide +kernel
theorem dX11_isState_49 : decode cX11_isState 49 = .ok (.iconst 1, 1) := by decide +kernel
theorem dX11_isState_50 : decode cX11_isState 50 = .ok (.if_icmp .gt 37, 3) := by decide +kernel
theorem dX11_isState_53 : decode cX11_isState 53 = .ok (.aload_n 0, 1) := by decide +kernel
theorem dX11_isState_54 : decode cX11_isState 54 = .ok (.iload_n 1, 1) := by decide +kernel
theorem dX11_isState_55 : decode cX11_isState 55 = .ok (.iconst 5, 1) := by decide +kernel
theorem dX11_isState_56 : decode cX11_isState 56 = .ok (.iadd, 1) := by decide +kernel
theorem dX11_isState_57 : decode cX11_isState 57 = .ok (.iconst 2, 1) := by decide +kernel
theorem dX11_isState_58 : decode cX11_isState 58 = .ok (.invokevirtual 154, 3) := by decide +kernel
theorem dX11_isState_61 : decode cX11_isState 61 = .ok (.iconst 1, 1) := by decide +kernel
theorem dX11_isState_62 : decode cX11_isState 62 = .ok (.if_icmp .lt 25, 3) := by decide +kernel
theorem dX11_isState_65 : decode cX11_isState 65 = .ok (.iload_n 2, 1) := by decide +kernel
theorem dX11_isState_66 : decode cX11_isState 66 = .ok (.iconst 1, 1) := by decide +kernel
theorem dX11_isState_67 : decode cX11_isState 67 = .ok (.if_icmp .lt 20, 3) := by decide +kernel
theorem dX11_isState_70 : decode cX11_isState 70 = .ok (.iload_n 2, 1) := by decide +kernel
theorem dX11_isState_71 : decode cX11_isState 71 = .ok (.sipush 1024, 3) := by decide +kernel
theorem dX11_isState_74 : decode cX11_isState 74 = .ok (.if_icmp .gt 13, 3) := by decide +kernel
theorem dX11_isState_77 : decode cX11_isState 77 = .ok (.iload 4, 2) := by decide +kernel
theorem dX11_isState_79 : decode cX11_isState 79 = .ok (.iconst 3, 1) := by decide +kernel
theorem dX11_isState_80 : decode cX11_isState 80 = .ok (.if_icmp .gt 7, 3) := by decide +kernel
theorem dX11_isState_83 : decode cX11_isState 83 = .ok (.iconst 1, 1) := by decide +kernel
theorem dX11_isState_84 : decode cX11_isState 84 = .ok (.goto 4, 3) := by decide +kernel
theorem dX11_isState_87 : decode cX11_isState 87 = .ok (.iconst 0, 1) := by decide +kernel
theorem dX11_isState_88 : decode cX11_isState 88 = .ok (.istore 5, 2) := by decide +kernel
theorem dX11_isState_90 : decode cX11_isState 90 = .ok (.iload 5, 2) := by decide +kernel
theorem dX11_isState_92 : decode cX11_isState 92 = .ok (.ifCond .eq 44, 3) := by decide +kernel
theorem dX11_isState_95 : decode cX11_isState 95 = .ok (.iload 4, 2) := by decide +kernel
theorem dX11_isState_97 : decode cX11_isState 97 = .ok (.ifCond .ne 10, 3) := by decide +kernel
theorem dX11_isState_100 : decode cX11_isState 100 = .ok (.iload_n 3, 1) := by decide +kernel
theorem dX11_isState_101 : decode cX11_isState 101 = .ok (.ifCond .ne 35, 3) := by decide +kernel
theorem dX11_isState_104 : decode cX11_isState 104 = .ok (.goto 28, 3) := by decide +kernel
theorem dX11_isState_107 : decode cX11_isState 107 = .ok (.aload_n 0, 1) := by decide +kernel
theorem dX11_isState_108 : decode cX11_isState 108 = .ok (.iload_n 1, 1) := by decide +kernel
theorem dX11_isState_109 : decode cX11_isState 109 = .ok (.bipush 16, 2) := by decide +kernel
theorem dX11_isState_111 : decode cX11_isState 111 = .ok (.iadd, 1) := by decide +kernel
theorem dX11_isState_112 : decode cX11_isState 112 = .ok (.iconst 2, 1) := by decide +kernel
theorem dX11_isState_113 : decode cX11_isState 113 = .ok (.invokevirtual 154, 3) := by decide +kernel
theorem dX11_isState_116 : decode cX11_isState 116 = .ok (.iconst 1, 1) := by decide +kernel
theorem dX11_isState_117 : decode cX11_isState 117 = .ok (.if_icmp .lt 19, 3) := by decide +kernel
theorem dX11_isState_120 : decode cX11_isState 120 = .ok (.iload_n 3, 1) := by decide +kernel
theorem dX11_isState_121 : decode cX11_isState 121 = .ok (.iconst 1, 1) := by decide +kernel
theorem dX11_isState_122 : decode cX11_isState 122 = .ok (.if_icmp .lt 14, 3) := by decide +kernel
theorem dX11_isState_125 : decode cX11_isState 125 = .ok (.iload_n 3, 1) := by decide +kernel
theorem dX11_isState_126 : decode cX11_isState 126 = .ok (.sipush 1024, 3) := by decide +kernel
theorem dX11_isState_129 : decode cX11_isState 129 = .ok (.if_icmp .gt 7, 3) := by decide +kernel
theorem dX11_isState_132 : decode cX11_isState 132 = .ok (.iconst 1, 1) := by decide +kernel
theorem dX11_isState_133 : decode cX11_isState 133 = .ok (.goto 4, 3) := by decide +kernel
theorem dX11_isState_136 : decode cX11_isState 136 = .ok (.iconst 0, 1) := by decide +kernel
theorem dX11_isState_137 : decode cX11_isState 137 = .ok (.istore 5, 2) := by decide +kernel
theorem dX11_isState_139 : decode cX11_isState 139 = .ok (.iload 5, 2) := by decide +kernel
theorem dX11_isState_141 : decode cX11_isState 141 = .ok (.ifCond .eq 26, 3) := by decide +kernel
theorem dX11_isState_144 : decode cX11_isState 144 = .ok (.aload_n 0, 1) := by decide +kernel
theorem dX11_isState_145 : decode cX11_isState 145 = .ok (.iload_n 1, 1) := by decide +kernel
theorem dX11_isState_146 : decode cX11_isState 146 = .ok (.bipush 28, 2) := by decide +kernel
theorem dX11_isState_148 : decode cX11_isState 148 = .ok (.invokevirtual 158, 3) := by decide +kernel
theorem dX11_isState_151 : decode cX11_isState 151 = .ok (.aload_n 0, 1) := by decide +kernel
theorem dX11_isState_152 : decode cX11_isState 152 = .ok (.iload_n 1, 1) := by decide +kernel
theorem dX11_isState_153 : decode cX11_isState 153 = .ok (.bipush 28, 2) := by decide +kernel
theorem dX11_isState_155 : decode cX11_isState 155 = .ok (.iadd, 1) := by decide +kernel
theorem dX11_isState_156 : decode cX11_isState 156 = .ok (.iconst 4, 1) := by decide +kernel
theorem dX11_isState_157 : decode cX11_isState 157 = .ok (.invokevirtual 154, 3) := by decide +kernel
theorem dX11_isState_160 : decode cX11_isState 160 = .ok (.if_icmp .ne 7, 3) := by decide +kernel
theorem dX11_isState_163 : decode cX11_isState 163 = .ok (.iconst 1, 1) := by decide +kernel
theorem dX11_isState_164 : decode cX11_isState 164 = .ok (.goto 4, 3) := by decide +kernel
theorem dX11_isState_167 : decode cX11_isState 167 = .ok (.iconst 0, 1) := by decide +kernel
theorem dX11_isState_168 : decode cX11_isState 168 = .ok (.ireturn, 1) := by decide +kernel
theorem dX11_layState_0 : decode cX11_layState 0 = .ok (.aload_n 0, 1) := by decide +kernel
theorem dX11_layState_1 : decode cX11_layState 1 = .ok (.bipush (-2), 2) := by decide +kernel
theorem dX11_layState_3 : decode cX11_layState 3 = .ok (.putfield 161, 3) := by decide +kernel
theorem dX11_layState_6 : decode cX11_layState 6 = .ok (.aload_n 0, 1) := by decide +kernel
theorem dX11_layState_7 : decode cX11_layState 7 = .ok (.iconst 0, 1) := by decide +kernel
theorem dX11_layState_8 : decode cX11_layState 8 = .ok (.putfield 96, 3) := by decide +kernel
theorem dX11_layState_11 : decode cX11_layState 11 = .ok (.iconst 0, 1) := by decide +kernel
theorem dX11_layState_12 : decode cX11_layState 12 = .ok (.istore_n 1, 1) := by decide +kernel
theorem dX11_layState_13 : decode cX11_layState 13 = .ok (.iload_n 1, 1) := by decide +kernel
theorem dX11_layState_14 : decode cX11_layState 14 = .ok (.bipush 8, 2) := by decide +kernel
theorem dX11_layState_16 : decode cX11_layState 16 = .ok (.if_icmp .ge 63, 3) := by decide +kernel
theorem dX11_layState_19 : decode cX11_layState 19 = .ok (.sipush 1024, 3) := by decide +kernel
theorem dX11_layState_22 : decode cX11_layState 22 = .ok (.bipush 32, 2) := by decide +kernel
theorem dX11_layState_24 : decode cX11_layState 24 = .ok (.iload_n 1, 1) := by decide +kernel
theorem dX11_layState_25 : decode cX11_layState 25 = .ok (.imul, 1) := by decide +kernel
theorem dX11_layState_26 : decode cX11_layState 26 = .ok (.iadd, 1) := by decide +kernel
theorem dX11_layState_27 : decode cX11_layState 27 = .ok (.istore_n 2, 1) := by decide +kernel
theorem dX11_layState_28 : decode cX11_layState 28 = .ok (.aload_n 0, 1) := by decide +kernel
theorem dX11_layState_29 : decode cX11_layState 29 = .ok (.iload_n 2, 1) := by decide +kernel
theorem dX11_layState_30 : decode cX11_layState 30 = .ok (.invokevirtual 164, 3) := by decide +kernel
theorem dX11_layState_33 : decode cX11_layState 33 = .ok (.ifCond .eq 40, 3) := by decide +kernel
theorem dX11_layState_36 : decode cX11_layState 36 = .ok (.aload_n 0, 1) := by decide +kernel
theorem dX11_layState_37 : decode cX11_layState 37 = .ok (.getfield 161, 3) := by decide +kernel
theorem dX11_layState_40 : decode cX11_layState 40 = .ok (.bipush (-2), 2) := by decide +kernel
theorem dX11_layState_42 : decode cX11_layState 42 = .ok (.if_icmp .eq 16, 3) := by decide +kernel
theorem dX11_layState_45 : decode cX11_layState 45 = .ok (.aload_n 0, 1) := by decide +kernel
theorem dX11_layState_46 : decode cX11_layState 46 = .ok (.iload_n 2, 1) := by decide +kernel
theorem dX11_layState_47 : decode cX11_layState 47 = .ok (.iconst 4, 1) := by decide +kernel
theorem dX11_layState_48 : decode cX11_layState 48 = .ok (.invokevirtual 154, 3) := by decide +kernel
theorem dX11_layState_51 : decode cX11_layState 51 = .ok (.aload_n 0, 1) := by decide +kernel
theorem dX11_layState_52 : decode cX11_layState 52 = .ok (.getfield 96, 3) := by decide +kernel
theorem dX11_layState_55 : decode cX11_layState 55 = .ok (.if_icmp .le 18, 3) := by decide +kernel
theorem dX11_layState_58 : decode cX11_layState 58 = .ok (.aload_n 0, 1) := by decide +kernel
theorem dX11_layState_59 : decode cX11_layState 59 = .ok (.iload_n 2, 1) := by decide +kernel
theorem dX11_layState_60 : decode cX11_layState 60 = .ok (.putfield 161, 3) := by decide +kernel
theorem dX11_layState_63 : decode cX11_layState 63 = .ok (.aload_n 0, 1) := by decide +kernel
theorem dX11_layState_64 : decode cX11_layState 64 = .ok (.aload_n 0, 1) := by decide +kernel
theorem dX11_layState_65 : decode cX11_layState 65 = .ok (.iload_n 2, 1) := by decide +kernel
theorem dX11_layState_66 : decode cX11_layState 66 = .ok (.iconst 4, 1) := by decide +kernel
theorem dX11_layState_67 : decode cX11_layState 67 = .ok (.invokevirtual 154, 3) := by decide +kernel
theorem dX11_layState_70 : decode cX11_layState 70 = .ok (.putfield 96, 3) := by decide +kernel
theorem dX11_layState_73 : decode cX11_layState 73 = .ok (.iinc 1 1, 3) := by decide +kernel
theorem dX11_layState_76 : decode cX11_layState 76 = .ok (.goto (-63), 3) := by decide +kernel
theorem dX11_layState_79 : decode cX11_layState 79 = .ok (.aload_n 0, 1) := by decide +kernel
theorem dX11_layState_80 : decode cX11_layState 80 = .ok (.getfield 161, 3) := by decide +kernel
theorem dX11_layState_83 : decode cX11_layState 83 = .ok (.bipush (-2), 2) := by decide +kernel
theorem dX11_layState_85 : decode cX11_layState 85 = .ok (.if_icmp .ne 50, 3) := by decide +kernel
theorem dX11_layState_88 : decode cX11_layState 88 = .ok (.aload_n 0, 1) := by decide +kernel
theorem dX11_layState_89 : decode cX11_layState 89 = .ok (.iconst 0, 1) := by decide +kernel
theorem dX11_layState_90 : decode cX11_layState 90 = .ok (.putfield 168, 3) := by decide +kernel
theorem dX11_layState_93 : decode cX11_layState 93 = .ok (.aload_n 0, 1) := by decide +kernel
theorem dX11_layState_94 : decode cX11_layState 94 = .ok (.iconst 1, 1) := by decide +kernel
theorem dX11_layState_95 : decode cX11_layState 95 = .ok (.putfield 171, 3) := by decide +kernel
theorem dX11_layState_98 : decode cX11_layState 98 = .ok (.aload_n 0, 1) := by decide +kernel
theorem dX11_layState_99 : decode cX11_layState 99 = .ok (.aload_n 0, 1) := by decide +kernel
theorem dX11_layState_100 : decode cX11_layState 100 = .ok (.getfield 81, 3) := by decide +kernel
theorem dX11_layState_103 : decode cX11_layState 103 = .ok (.putfield 174, 3) := by decide +kernel
theorem dX11_layState_106 : decode cX11_layState 106 = .ok (.aload_n 0, 1) := by decide +kernel
theorem dX11_layState_107 : decode cX11_layState 107 = .ok (.aload_n 0, 1) := by decide +kernel
theorem dX11_layState_108 : decode cX11_layState 108 = .ok (.getfield 92, 3) := by decide +kernel
theorem dX11_layState_111 : decode cX11_layState 111 = .ok (.putfield 177, 3) := by decide +kernel
theorem dX11_layState_114 : decode cX11_layState 114 = .ok (.aload_n 0, 1) := by decide +kernel
theorem dX11_layState_115 : decode cX11_layState 115 = .ok (.iconst 0, 1) := by decide +kernel
theorem dX11_layState_116 : decode cX11_layState 116 = .ok (.putfield 180, 3) := by decide +kernel
theorem dX11_layState_119 : decode cX11_layState 119 = .ok (.aload_n 0, 1) := by decide +kernel
theorem dX11_layState_120 : decode cX11_layState 120 = .ok (.iconst 0, 1) := by decide +kernel
theorem dX11_layState_121 : decode cX11_layState 121 = .ok (.putfield 183, 3) := by decide +kernel
theorem dX11_layState_124 : decode cX11_layState 124 = .ok (.aload_n 0, 1) := by decide +kernel
theorem dX11_layState_125 : decode cX11_layState 125 = .ok (.iconst 0, 1) := by decide +kernel
theorem dX11_layState_126 : decode cX11_layState 126 = .ok (.putfield 186, 3) := by decide +kernel
theorem dX11_layState_129 : decode cX11_layState 129 = .ok (.aload_n 0, 1) := by decide +kernel
theorem dX11_layState_130 : decode cX11_layState 130 = .ok (.lconst 0, 1) := by decide +kernel
theorem dX11_layState_131 : decode cX11_layState 131 = .ok (.putfield 189, 3) := by decide +kernel
theorem dX11_layState_134 : decode cX11_layState 134 = .ok (.return_, 1) := by decide +kernel
theorem dX11_layState_135 : decode cX11_layState 135 = .ok (.aload_n 0, 1) := by decide +kernel
theorem dX11_layState_136 : decode cX11_layState 136 = .ok (.aload_n 0, 1) := by decide +kernel
theorem dX11_layState_137 : decode cX11_layState 137 = .ok (.getfield 7, 3) := by decide +kernel
theorem dX11_layState_140 : decode cX11_layState 140 = .ok (.aload_n 0, 1) := by decide +kernel
theorem dX11_layState_141 : decode cX11_layState 141 = .ok (.getfield 161, 3) := by decide +kernel
theorem dX11_layState_144 : decode cX11_layState 144 = .ok (.iconst 4, 1) := by decide +kernel
theorem dX11_layState_145 : decode cX11_layState 145 = .ok (.iadd, 1) := by decide +kernel
theorem dX11_layState_146 : decode cX11_layState 146 = .ok (.iaload, 1) := by decide +kernel
theorem dX11_layState_147 : decode cX11_layState 147 = .ok (.putfield 168, 3) := by decide +kernel
theorem dX11_layState_150 : decode cX11_layState 150 = .ok (.aload_n 0, 1) := by decide +kernel
theorem dX11_layState_151 : decode cX11_layState 151 = .ok (.aload_n 0, 1) := by decide +kernel
theorem dX11_layState_152 : decode cX11_layState 152 = .ok (.aload_n 0, 1) := by decide +kernel
theorem dX11_layState_153 : decode cX11_layState 153 = .ok (.getfield 161, 3) := by decide +kernel
theorem dX11_layState_156 : decode cX11_layState 156 = .ok (.iconst 5, 1) := by decide +kernel
theorem dX11_layState_157 : decode cX11_layState 157 = .ok (.iadd, 1) := by decide +kernel
theorem dX11_layState_158 : decode cX11_layState 158 = .ok (.iconst 2, 1) := by decide +kernel
theorem dX11_layState_159 : decode cX11_layState 159 = .ok (.invokevirtual 154, 3) := by decide +kernel
theorem dX11_layState_162 : decode cX11_layState 162 = .ok (.putfield 171, 3) := by decide +kernel
theorem dX11_layState_165 : decode cX11_layState 165 = .ok (.aload_n 0, 1) := by decide +kernel
theorem dX11_layState_166 : decode cX11_layState 166 = .ok (.aload_n 0, 1) := by decide +kernel
theorem dX11_layState_167 : decode cX11_layState 167 = .ok (.aload_n 0, 1) := by decide +kernel
theorem dX11_layState_168 : decode cX11_layState 168 = .ok (.getfield 161, 3) := by decide +kernel
theorem dX11_layState_171 : decode cX11_layState 171 = .ok (.bipush 7, 2) := by decide +kernel
theorem dX11_layState_173 : decode cX11_layState 173 = .ok (.iadd, 1) := by decide +kernel
theorem dX11_layState_174 : decode cX11_layState 174 = .ok (.iconst 2, 1) := by decide +kernel
theorem dX11_layState_175 : decode cX11_layState 175 = .ok (.invokevirtual 154, 3) := by decide +kernel
theorem dX11_layState_178 : decode cX11_layState 178 = .ok (.putfield 174, 3) := by decide +kernel
theorem dX11_layState_181 : decode cX11_layState 181 = .ok (.aload_n 0, 1) := by decide +kernel
theorem dX11_layState_182 : decode cX11_layState 182 = .ok (.aload_n 0, 1) := by decide +kernel
theorem dX11_layState_183 : decode cX11_layState 183 = .ok (.aload_n 0, 1) := by decide +kernel
theorem dX11_layState_184 : decode cX11_layState 184 = .ok (.getfield 161, 3) := by decide +kernel
theorem dX11_layState_187 : decode cX11_layState 187 = .ok (.bipush 9, 2) := by decide +kernel
theorem dX11_layState_189 : decode cX11_layState 189 = .ok (.iadd, 1) := by decide +kernel
theorem dX11_layState_190 : decode cX11_layState 190 = .ok (.invokevirtual 192, 3) := by decide +kernel
theorem dX11_layState_193 : decode cX11_layState 193 = .ok (.putfield 177, 3) := by decide +kernel
theorem dX11_layState_196 : decode cX11_layState 196 = .ok (.aload_n 0, 1) := by decide +kernel
theorem dX11_layState_197 : decode cX11_layState 197 = .ok (.aload_n 0, 1) := by decide +kernel
theorem dX11_layState_198 : decode cX11_layState 198 = .ok (.getfield 7, 3) := by decide +kernel
theorem dX11_layState_201 : decode cX11_layState 201 = .ok (.aload_n 0, 1) := by decide +kernel
theorem dX11_layState_202 : decode cX11_layState 202 = .ok (.getfield 161, 3) := by decide +kernel
theorem dX11_layState_205 : decode cX11_layState 205 = .ok (.bipush 15, 2) := by decide +kernel
theorem dX11_layState_207 : decode cX11_layState 207 = .ok (.iadd, 1) := by decide +kernel
theorem dX11_layState_208 : decode cX11_layState 208 = .ok (.iaload, 1) := by decide +kernel
theorem dX11_layState_209 : decode cX11_layState 209 = .ok (.putfield 180, 3) := by decide +kernel
theorem dX11_layState_212 : decode cX11_layState 212 = .ok (.aload_n 0, 1) := by decide +kernel
theorem dX11_layState_213 : decode cX11_layState 213 = .ok (.aload_n 0, 1) := by decide +kernel
theorem dX11_layState_214 : decode cX11_layState 214 = .ok (.aload_n 0, 1) := by decide +kernel
theorem dX11_layState_215 : decode cX11_layState 215 = .ok (.getfield 161, 3) := by decide +kernel
theorem dX11_layState_218 : decode cX11_layState 218 = .ok (.bipush 16, 2) := by decide +kernel
theorem dX11_layState_220 : decode cX11_layState 220 = .ok (.iadd, 1) := by decide +kernel
theorem dX11_layState_221 : decode cX11_layState 221 = .ok (.iconst 2, 1) := by decide +kernel
theorem dX11_layState_222 : decode cX11_layState 222 = .ok (.invokevirtual 154, 3) := by decide +kernel
theorem dX11_layState_225 : decode cX11_layState 225 = .ok (.putfield 183, 3) := by decide +kernel
theorem dX11_layState_228 : decode cX11_layState 228 = .ok (.aload_n 0, 1) := by decide +kernel
theorem dX11_layState_229 : decode cX11_layState 229 = .ok (.aload_n 0, 1) := by decide +kernel
theorem dX11_layState_230 : decode cX11_layState 230 = .ok (.aload_n 0, 1) := by decide +kernel
theorem dX11_layState_231 : decode cX11_layState 231 = .ok (.getfield 161, 3) := by decide +kernel
theorem dX11_layState_234 : decode cX11_layState 234 = .ok (.bipush 18, 2) := by decide +kernel
theorem dX11_layState_236 : decode cX11_layState 236 = .ok (.iadd, 1) := by decide +kernel
theorem dX11_layState_237 : decode cX11_layState 237 = .ok (.iconst 2, 1) := by decide +kernel
theorem dX11_layState_238 : decode cX11_layState 238 = .ok (.invokevirtual 154, 3) := by decide +kernel
theorem dX11_layState_241 : decode cX11_layState 241 = .ok (.putfield 186, 3) := by decide +kernel
theorem dX11_layState_244 : decode cX11_layState 244 = .ok (.aload_n 0, 1) := by decide +kernel
theorem dX11_layState_245 : decode cX11_layState 245 = .ok (.aload_n 0, 1) := by decide +kernel
theorem dX11_layState_246 : decode cX11_layState 246 = .ok (.aload_n 0, 1) := by decide +kernel
theorem dX11_layState_247 : decode cX11_layState 247 = .ok (.getfield 161, 3) := by decide +kernel
theorem dX11_layState_250 : decode cX11_layState 250 = .ok (.bipush 20, 2) := by decide +kernel
theorem dX11_layState_252 : decode cX11_layState 252 = .ok (.iadd, 1) := by decide +kernel
theorem dX11_layState_253 : decode cX11_layState 253 = .ok (.invokevirtual 192, 3) := by decide +kernel
theorem dX11_layState_256 : decode cX11_layState 256 = .ok (.putfield 189, 3) := by decide +kernel
theorem dX11_layState_259 : decode cX11_layState 259 = .ok (.return_, 1) := by decide +kernel
theorem dX11_put_0 : decode cX11_put 0 = .ok (.iload_n 3, 1) := by decide +kernel
theorem dX11_put_1 : decode cX11_put 1 = .ok (.iconst 1, 1) := by decide +kernel
theorem dX11_put_2 : decode cX11_put 2 = .ok (.isub, 1) := by decide +kernel
theorem dX11_put_3 : decode cX11_put 3 = .ok (.istore 4, 2) := by decide +kernel
theorem dX11_put_5 : decode cX11_put 5 = .ok (.iload 4, 2) := by decide +kernel
theorem dX11_put_7 : decode cX11_put 7 = .ok (.ifCond .lt 40, 3) := by decide +kernel
theorem dX11_put_10 : decode cX11_put 10 = .ok (.aload_n 0, 1) := by decide +kernel
theorem dX11_put_11 : decode cX11_put 11 = .ok (.getfield 20, 3) := by decide +kernel
theorem dX11_put_14 : decode cX11_put 14 = .ok (.aload_n 0, 1) := by decide +kernel
theorem dX11_put_15 : decode cX11_put 15 = .ok (.getfield 196, 3) := by decide +kernel
theorem dX11_put_18 : decode cX11_put 18 = .ok (.lload_n 1, 1) := by decide +kernel
theorem dX11_put_19 : decode cX11_put 19 = .ok (.bipush 8, 2) := by decide +kernel
theorem dX11_put_21 : decode cX11_put 21 = .ok (.iload 4, 2) := by decide +kernel
theorem dX11_put_23 : decode cX11_put 23 = .ok (.imul, 1) := by decide +kernel
theorem dX11_put_24 : decode cX11_put 24 = .ok (.lshr, 1) := by decide +kernel
theorem dX11_put_25 : decode cX11_put 25 = .ok (.l2i, 1) := by decide +kernel
theorem dX11_put_26 : decode cX11_put 26 = .ok (.sipush 255, 3) := by decide +kernel
theorem dX11_put_29 : decode cX11_put 29 = .ok (.iand, 1) := by decide +kernel
theorem dX11_put_30 : decode cX11_put 30 = .ok (.iastore, 1) := by decide +kernel
theorem dX11_put_31 : decode cX11_put 31 = .ok (.aload_n 0, 1) := by decide +kernel
theorem dX11_put_32 : decode cX11_put 32 = .ok (.dup, 1) := by decide +kernel
theorem dX11_put_33 : decode cX11_put 33 = .ok (.getfield 196, 3) := by decide +kernel
theorem dX11_put_36 : decode cX11_put 36 = .ok (.iconst 1, 1) := by decide +kernel
theorem dX11_put_37 : decode cX11_put 37 = .ok (.iadd, 1) := by decide +kernel
theorem dX11_put_38 : decode cX11_put 38 = .ok (.putfield 196, 3) := by decide +kernel
theorem dX11_put_41 : decode cX11_put 41 = .ok (.iinc 4 (-1), 3) := by decide +kernel
theorem dX11_put_44 : decode cX11_put 44 = .ok (.goto (-39), 3) := by decide +kernel
theorem dX11_put_47 : decode cX11_put 47 = .ok (.return_, 1) := by decide +kernel
theorem dX11_layPage_0 : decode cX11_layPage 0 = .ok (.aload_n 0, 1) := by decide +kernel
theorem dX11_layPage_1 : decode cX11_layPage 1 = .ok (.iconst 0, 1) := by decide +kernel
theorem dX11_layPage_2 : decode cX11_layPage 2 = .ok (.putfield 196, 3) := by decide +kernel
theorem dX11_layPage_5 : decode cX11_layPage 5 = .ok (.aload_n 0, 1) := by decide +kernel
theorem dX11_layPage_6 : decode cX11_layPage 6 = .ok (.aload_n 0, 1) := by decide +kernel
theorem dX11_layPage_7 : decode cX11_layPage 7 = .ok (.getfield 96, 3) := by decide +kernel
theorem dX11_layPage_10 : decode cX11_layPage 10 = .ok (.iconst 1, 1) := by decide +kernel
theorem dX11_layPage_11 : decode cX11_layPage 11 = .ok (.iadd, 1) := by decide +kernel
theorem dX11_layPage_12 : decode cX11_layPage 12 = .ok (.i2l, 1) := by decide +kernel
theorem dX11_layPage_13 : decode cX11_layPage 13 = .ok (.iconst 4, 1) := by decide +kernel
theorem dX11_layPage_14 : decode cX11_layPage 14 = .ok (.invokevirtual 199, 3) := by decide +kernel
theorem dX11_layPage_17 : decode cX11_layPage 17 = .ok (.aload_n 0, 1) := by decide +kernel
theorem dX11_layPage_18 : decode cX11_layPage 18 = .ok (.aload_n 0, 1) := by decide +kernel
theorem dX11_layPage_19 : decode cX11_layPage 19 = .ok (.getfield 168, 3) := by decide +kernel
theorem dX11_layPage_22 : decode cX11_layPage 22 = .ok (.i2l, 1) := by decide +kernel
theorem dX11_layPage_23 : decode cX11_layPage 23 = .ok (.iconst 1, 1) := by decide +kernel
theorem dX11_layPage_24 : decode cX11_layPage 24 = .ok (.invokevirtual 199, 3) := by decide +kernel
theorem dX11_layPage_27 : decode cX11_layPage 27 = .ok (.aload_n 0, 1) := by decide +kernel
theorem dX11_layPage_28 : decode cX11_layPage 28 = .ok (.aload_n 0, 1) := by decide +kernel
theorem dX11_layPage_29 : decode cX11_layPage 29 = .ok (.getfield 171, 3) := by decide +kernel
theorem dX11_layPage_32 : decode cX11_layPage 32 = .ok (.i2l, 1) := by decide +kernel
theorem dX11_layPage_33 : decode cX11_layPage 33 = .ok (.iconst 2, 1) := by decide +kernel
theorem dX11_layPage_34 : decode cX11_layPage 34 = .ok (.invokevirtual 199, 3) := by decide +kernel
theorem dX11_layPage_37 : decode cX11_layPage 37 = .ok (.aload_n 0, 1) := by decide +kernel
theorem dX11_layPage_38 : decode cX11_layPage 38 = .ok (.aload_n 0, 1) := by decide +kernel
theorem dX11_layPage_39 : decode cX11_layPage 39 = .ok (.getfield 174, 3) := by decide +kernel
theorem dX11_layPage_42 : decode cX11_layPage 42 = .ok (.i2l, 1) := by decide +kernel
theorem dX11_layPage_43 : decode cX11_layPage 43 = .ok (.iconst 2, 1) := by decide +kernel
theorem dX11_layPage_44 : decode cX11_layPage 44 = .ok (.invokevirtual 199, 3) := by decide +kernel
theorem dX11_layPage_47 : decode cX11_layPage 47 = .ok (.aload_n 0, 1) := by decide +kernel
theorem dX11_layPage_48 : decode cX11_layPage 48 = .ok (.aload_n 0, 1) := by decide +kernel
theorem dX11_layPage_49 : decode cX11_layPage 49 = .ok (.getfield 177, 3) := by decide +kernel
theorem dX11_layPage_52 : decode cX11_layPage 52 = .ok (.bipush 6, 2) := by decide +kernel
theorem dX11_layPage_54 : decode cX11_layPage 54 = .ok (.invokevirtual 199, 3) := by decide +kernel
theorem dX11_layPage_57 : decode cX11_layPage 57 = .ok (.aload_n 0, 1) := by decide +kernel
theorem dX11_layPage_58 : decode cX11_layPage 58 = .ok (.iload_n 1, 1) := by decide +kernel
theorem dX11_layPage_59 : decode cX11_layPage 59 = .ok (.i2l, 1) := by decide +kernel
theorem dX11_layPage_60 : decode cX11_layPage 60 = .ok (.iconst 1, 1) := by decide +kernel
theorem dX11_layPage_61 : decode cX11_layPage 61 = .ok (.invokevirtual 199, 3) := by decide +kernel
theorem dX11_layPage_64 : decode cX11_layPage 64 = .ok (.aload_n 0, 1) := by decide +kernel
theorem dX11_layPage_65 : decode cX11_layPage 65 = .ok (.iload_n 1, 1) := by decide +kernel
theorem dX11_layPage_66 : decode cX11_layPage 66 = .ok (.ifCond .ne 7, 3) := by decide +kernel
theorem dX11_layPage_69 : decode cX11_layPage 69 = .ok (.lconst 0, 1) := by decide +kernel
theorem dX11_layPage_70 : decode cX11_layPage 70 = .ok (.goto 8, 3) := by decide +kernel
theorem dX11_layPage_73 : decode cX11_layPage 73 = .ok (.aload_n 0, 1) := by decide +kernel
theorem dX11_layPage_74 : decode cX11_layPage 74 = .ok (.getfield 183, 3) := by decide +kernel
theorem dX11_layPage_77 : decode cX11_layPage 77 = .ok (.i2l, 1) := by decide +kernel
theorem dX11_layPage_78 : decode cX11_layPage 78 = .ok (.iconst 2, 1) := by decide +kernel
theorem dX11_layPage_79 : decode cX11_layPage 79 = .ok (.invokevirtual 199, 3) := by decide +kernel
theorem dX11_layPage_82 : decode cX11_layPage 82 = .ok (.aload_n 0, 1) := by decide +kernel
theorem dX11_layPage_83 : decode cX11_layPage 83 = .ok (.iload_n 1, 1) := by decide +kernel
theorem dX11_layPage_84 : decode cX11_layPage 84 = .ok (.ifCond .ne 7, 3) := by decide +kernel
theorem dX11_layPage_87 : decode cX11_layPage 87 = .ok (.lconst 0, 1) := by decide +kernel
theorem dX11_layPage_88 : decode cX11_layPage 88 = .ok (.goto 8, 3) := by decide +kernel
theorem dX11_layPage_91 : decode cX11_layPage 91 = .ok (.aload_n 0, 1) := by decide +kernel
theorem dX11_layPage_92 : decode cX11_layPage 92 = .ok (.getfield 186, 3) := by decide +kernel
theorem dX11_layPage_95 : decode cX11_layPage 95 = .ok (.i2l, 1) := by decide +kernel
theorem dX11_layPage_96 : decode cX11_layPage 96 = .ok (.iconst 2, 1) := by decide +kernel
theorem dX11_layPage_97 : decode cX11_layPage 97 = .ok (.invokevirtual 199, 3) := by decide +kernel
theorem dX11_layPage_100 : decode cX11_layPage 100 = .ok (.aload_n 0, 1) := by decide +kernel
theorem dX11_layPage_101 : decode cX11_layPage 101 = .ok (.iload_n 1, 1) := by decide +kernel
theorem dX11_layPage_102 : decode cX11_layPage 102 = .ok (.ifCond .ne 7, 3) := by decide +kernel
theorem dX11_layPage_105 : decode cX11_layPage 105 = .ok (.lconst 0, 1) := by decide +kernel
theorem dX11_layPage_106 : decode cX11_layPage 106 = .ok (.goto 7, 3) := by decide +kernel
theorem dX11_layPage_109 : decode cX11_layPage 109 = .ok (.aload_n 0, 1) := by decide +kernel
theorem dX11_layPage_110 : decode cX11_layPage 110 = .ok (.getfield 189, 3) := by decide +kernel
theorem dX11_layPage_113 : decode cX11_layPage 113 = .ok (.bipush 6, 2) := by decide +kernel
theorem dX11_layPage_115 : decode cX11_layPage 115 = .ok (.invokevirtual 199, 3) := by decide +kernel
theorem dX11_layPage_118 : decode cX11_layPage 118 = .ok (.aload_n 0, 1) := by decide +kernel
theorem dX11_layPage_119 : decode cX11_layPage 119 = .ok (.lconst 0, 1) := by decide +kernel
theorem dX11_layPage_120 : decode cX11_layPage 120 = .ok (.iconst 2, 1) := by decide +kernel
theorem dX11_layPage_121 : decode cX11_layPage 121 = .ok (.invokevirtual 199, 3) := by decide +kernel
theorem dX11_layPage_124 : decode cX11_layPage 124 = .ok (.aload_n 0, 1) := by decide +kernel
theorem dX11_layPage_125 : decode cX11_layPage 125 = .ok (.invokevirtual 113, 3) := by decide +kernel
theorem dX11_layPage_128 : decode cX11_layPage 128 = .ok (.iconst 0, 1) := by decide +kernel
theorem dX11_layPage_129 : decode cX11_layPage 129 = .ok (.istore_n 2, 1) := by decide +kernel
theorem dX11_layPage_130 : decode cX11_layPage 130 = .ok (.iload_n 2, 1) := by decide +kernel
theorem dX11_layPage_131 : decode cX11_layPage 131 = .ok (.bipush 28, 2) := by decide +kernel
theorem dX11_layPage_133 : decode cX11_layPage 133 = .ok (.if_icmp .ge 19, 3) := by decide +kernel
theorem dX11_layPage_136 : decode cX11_layPage 136 = .ok (.aload_n 0, 1) := by decide +kernel
theorem dX11_layPage_137 : decode cX11_layPage 137 = .ok (.aload_n 0, 1) := by decide +kernel
theorem dX11_layPage_138 : decode cX11_layPage 138 = .ok (.getfield 20, 3) := by decide +kernel
theorem dX11_layPage_141 : decode cX11_layPage 141 = .ok (.iload_n 2, 1) := by decide +kernel
theorem dX11_layPage_142 : decode cX11_layPage 142 = .ok (.iaload, 1) := by decide +kernel
theorem dX11_layPage_143 : decode cX11_layPage 143 = .ok (.invokevirtual 116, 3) := by decide +kernel
theorem dX11_layPage_146 : decode cX11_layPage 146 = .ok (.iinc 2 1, 3) := by decide +kernel
theorem dX11_layPage_149 : decode cX11_layPage 149 = .ok (.goto (-19), 3) := by decide +kernel
theorem dX11_layPage_152 : decode cX11_layPage 152 = .ok (.aload_n 0, 1) := by decide +kernel
theorem dX11_layPage_153 : decode cX11_layPage 153 = .ok (.aload_n 0, 1) := by decide +kernel
theorem dX11_layPage_154 : decode cX11_layPage 154 = .ok (.invokevirtual 150, 3) := by decide +kernel
theorem dX11_layPage_157 : decode cX11_layPage 157 = .ok (.i2l, 1) := by decide +kernel
theorem dX11_layPage_158 : decode cX11_layPage 158 = .ok (.iconst 4, 1) := by decide +kernel
theorem dX11_layPage_159 : decode cX11_layPage 159 = .ok (.invokevirtual 199, 3) := by decide +kernel
theorem dX11_layPage_162 : decode cX11_layPage 162 = .ok (.return_, 1) := by decide +kernel
theorem dX11_isErased_0 : decode cX11_isErased 0 = .ok (.iconst 1, 1) := by decide +kernel
theorem dX11_isErased_1 : decode cX11_isErased 1 = .ok (.istore_n 2, 1) := by decide +kernel
theorem dX11_isErased_2 : decode cX11_isErased 2 = .ok (.iconst 0, 1) := by decide +kernel
theorem dX11_isErased_3 : decode cX11_isErased 3 = .ok (.istore_n 3, 1) := by decide +kernel
theorem dX11_isErased_4 : decode cX11_isErased 4 = .ok (.iload_n 3, 1) := by decide +kernel
theorem dX11_isErased_5 : decode cX11_isErased 5 = .ok (.bipush 32, 2) := by decide +kernel
theorem dX11_isErased_7 : decode cX11_isErased 7 = .ok (.if_icmp .ge 33, 3) := by decide +kernel
theorem dX11_isErased_10 : decode cX11_isErased 10 = .ok (.iload_n 2, 1) := by decide +kernel
end
section
theorem dX11_isErased_11 : decode cX11_isErased 11 = .ok (.ifCond .eq 21, 3) := by decide +kernel
theorem dX11_isErased_14 : decode cX11_isErased 14 = .ok (.aload_n 0, 1) := by decide +kernel
theorem dX11_isErased_15 : decode cX11_isErased 15 = .ok (.getfield 7, 3) := by decide +kernel
theorem dX11_isErased_18 : decode cX11_isErased 18 = .ok (.iload_n 1, 1) := by decide +kernel
theorem dX11_isErased_19 : decode cX11_isErased 19 = .ok (.iload_n 3, 1) := by decide +kernel
theorem dX11_isErased_20 : decode cX11_isErased 20 = .ok (.iadd, 1) := by decide +kernel
theorem dX11_isErased_21 : decode cX11_isErased 21 = .ok (.iaload, 1) := by decide +kernel
theorem dX11_isErased_22 : decode cX11_isErased 22 = .ok (.sipush 255, 3) := by decide +kernel
theorem dX11_isErased_25 : decode cX11_isErased 25 = .ok (.if_icmp .ne 7, 3) := by decide +kernel
theorem dX11_isErased_28 : decode cX11_isErased 28 = .ok (.iconst 1, 1) := by decide +kernel
theorem dX11_isErased_29 : decode cX11_isErased 29 = .ok (.goto 4, 3) := by decide +kernel
theorem dX11_isErased_32 : decode cX11_isErased 32 = .ok (.iconst 0, 1) := by decide +kernel
theorem dX11_isErased_33 : decode cX11_isErased 33 = .ok (.istore_n 2, 1) := by decide +kernel
theorem dX11_isErased_34 : decode cX11_isErased 34 = .ok (.iinc 3 1, 3) := by decide +kernel
theorem dX11_isErased_37 : decode cX11_isErased 37 = .ok (.goto (-33), 3) := by decide +kernel
theorem dX11_isErased_40 : decode cX11_isErased 40 = .ok (.iload_n 2, 1) := by decide +kernel
theorem dX11_isErased_41 : decode cX11_isErased 41 = .ok (.ireturn, 1) := by decide +kernel
theorem dX11_writeState_0 : decode cX11_writeState 0 = .ok (.aload_n 0, 1) := by decide +kernel
theorem dX11_writeState_1 : decode cX11_writeState 1 = .ok (.getfield 161, 3) := by decide +kernel
theorem dX11_writeState_4 : decode cX11_writeState 4 = .ok (.bipush (-2), 2) := by decide +kernel
theorem dX11_writeState_6 : decode cX11_writeState 6 = .ok (.if_icmp .ne 8, 3) := by decide +kernel
theorem dX11_writeState_9 : decode cX11_writeState 9 = .ok (.bipush 8, 2) := by decide +kernel
theorem dX11_writeState_11 : decode cX11_writeState 11 = .ok (.goto 11, 3) := by decide +kernel
theorem dX11_writeState_14 : decode cX11_writeState 14 = .ok (.aload_n 0, 1) := by decide +kernel
theorem dX11_writeState_15 : decode cX11_writeState 15 = .ok (.getfield 161, 3) := by decide +kernel
theorem dX11_writeState_18 : decode cX11_writeState 18 = .ok (.sipush 128, 3) := by decide +kernel
theorem dX11_writeState_21 : decode cX11_writeState 21 = .ok (.idiv, 1) := by decide +kernel
theorem dX11_writeState_22 : decode cX11_writeState 22 = .ok (.istore_n 2, 1) := by decide +kernel
theorem dX11_writeState_23 : decode cX11_writeState 23 = .ok (.aload_n 0, 1) := by decide +kernel
theorem dX11_writeState_24 : decode cX11_writeState 24 = .ok (.getfield 161, 3) := by decide +kernel
theorem dX11_writeState_27 : decode cX11_writeState 27 = .ok (.bipush (-2), 2) := by decide +kernel
theorem dX11_writeState_29 : decode cX11_writeState 29 = .ok (.if_icmp .ne 7, 3) := by decide +kernel
theorem dX11_writeState_32 : decode cX11_writeState 32 = .ok (.iconst 0, 1) := by decide +kernel
theorem dX11_writeState_33 : decode cX11_writeState 33 = .ok (.goto 16, 3) := by decide +kernel
theorem dX11_writeState_36 : decode cX11_writeState 36 = .ok (.aload_n 0, 1) := by decide +kernel
theorem dX11_writeState_37 : decode cX11_writeState 37 = .ok (.getfield 161, 3) := by decide +kernel
theorem dX11_writeState_40 : decode cX11_writeState 40 = .ok (.sipush 128, 3) := by decide +kernel
theorem dX11_writeState_43 : decode cX11_writeState 43 = .ok (.irem, 1) := by decide +kernel
theorem dX11_writeState_44 : decode cX11_writeState 44 = .ok (.bipush 32, 2) := by decide +kernel
theorem dX11_writeState_46 : decode cX11_writeState 46 = .ok (.idiv, 1) := by decide +kernel
theorem dX11_writeState_47 : decode cX11_writeState 47 = .ok (.iconst 1, 1) := by decide +kernel
theorem dX11_writeState_48 : decode cX11_writeState 48 = .ok (.iadd, 1) := by decide +kernel
theorem dX11_writeState_49 : decode cX11_writeState 49 = .ok (.istore_n 3, 1) := by decide +kernel
theorem dX11_writeState_50 : decode cX11_writeState 50 = .ok (.bipush (-2), 2) := by decide +kernel
theorem dX11_writeState_52 : decode cX11_writeState 52 = .ok (.istore 4, 2) := by decide +kernel
theorem dX11_writeState_54 : decode cX11_writeState 54 = .ok (.iload_n 3, 1) := by decide +kernel
theorem dX11_writeState_55 : decode cX11_writeState 55 = .ok (.istore 5, 2) := by decide +kernel
theorem dX11_writeState_57 : decode cX11_writeState 57 = .ok (.iload 5, 2) := by decide +kernel
theorem dX11_writeState_59 : decode cX11_writeState 59 = .ok (.iconst 4, 1) := by decide +kernel
theorem dX11_writeState_60 : decode cX11_writeState 60 = .ok (.if_icmp .ge 47, 3) := by decide +kernel
theorem dX11_writeState_63 : decode cX11_writeState 63 = .ok (.iload 4, 2) := by decide +kernel
theorem dX11_writeState_65 : decode cX11_writeState 65 = .ok (.bipush (-2), 2) := by decide +kernel
theorem dX11_writeState_67 : decode cX11_writeState 67 = .ok (.if_icmp .ne 40, 3) := by decide +kernel
theorem dX11_writeState_70 : decode cX11_writeState 70 = .ok (.sipush 128, 3) := by decide +kernel
theorem dX11_writeState_73 : decode cX11_writeState 73 = .ok (.iload_n 2, 1) := by decide +kernel
theorem dX11_writeState_74 : decode cX11_writeState 74 = .ok (.imul, 1) := by decide +kernel
theorem dX11_writeState_75 : decode cX11_writeState 75 = .ok (.bipush 32, 2) := by decide +kernel
theorem dX11_writeState_77 : decode cX11_writeState 77 = .ok (.iload 5, 2) := by decide +kernel
theorem dX11_writeState_79 : decode cX11_writeState 79 = .ok (.imul, 1) := by decide +kernel
theorem dX11_writeState_80 : decode cX11_writeState 80 = .ok (.iadd, 1) := by decide +kernel
theorem dX11_writeState_81 : decode cX11_writeState 81 = .ok (.istore 6, 2) := by decide +kernel
theorem dX11_writeState_83 : decode cX11_writeState 83 = .ok (.aload_n 0, 1) := by decide +kernel
theorem dX11_writeState_84 : decode cX11_writeState 84 = .ok (.iload 6, 2) := by decide +kernel
theorem dX11_writeState_86 : decode cX11_writeState 86 = .ok (.invokevirtual 203, 3) := by decide +kernel
theorem dX11_writeState_89 : decode cX11_writeState 89 = .ok (.ifCond .eq 8, 3) := by decide +kernel
theorem dX11_writeState_92 : decode cX11_writeState 92 = .ok (.iload 6, 2) := by decide +kernel
theorem dX11_writeState_94 : decode cX11_writeState 94 = .ok (.goto 5, 3) := by decide +kernel
theorem dX11_writeState_97 : decode cX11_writeState 97 = .ok (.bipush (-2), 2) := by decide +kernel
theorem dX11_writeState_99 : decode cX11_writeState 99 = .ok (.istore 4, 2) := by decide +kernel
theorem dX11_writeState_101 : decode cX11_writeState 101 = .ok (.iinc 5 1, 3) := by decide +kernel
theorem dX11_writeState_104 : decode cX11_writeState 104 = .ok (.goto (-47), 3) := by decide +kernel
theorem dX11_writeState_107 : decode cX11_writeState 107 = .ok (.iload 4, 2) := by decide +kernel
theorem dX11_writeState_109 : decode cX11_writeState 109 = .ok (.bipush (-2), 2) := by decide +kernel
theorem dX11_writeState_111 : decode cX11_writeState 111 = .ok (.if_icmp .ne 21, 3) := by decide +kernel
theorem dX11_writeState_114 : decode cX11_writeState 114 = .ok (.aload_n 0, 1) := by decide +kernel
theorem dX11_writeState_115 : decode cX11_writeState 115 = .ok (.bipush 17, 2) := by decide +kernel
theorem dX11_writeState_117 : decode cX11_writeState 117 = .ok (.iload_n 2, 1) := by decide +kernel
theorem dX11_writeState_118 : decode cX11_writeState 118 = .ok (.isub, 1) := by decide +kernel
theorem dX11_writeState_119 : decode cX11_writeState 119 = .ok (.invokevirtual 206, 3) := by decide +kernel
theorem dX11_writeState_122 : decode cX11_writeState 122 = .ok (.sipush 128, 3) := by decide +kernel
theorem dX11_writeState_125 : decode cX11_writeState 125 = .ok (.bipush 17, 2) := by decide +kernel
theorem dX11_writeState_127 : decode cX11_writeState 127 = .ok (.iload_n 2, 1) := by decide +kernel
theorem dX11_writeState_128 : decode cX11_writeState 128 = .ok (.isub, 1) := by decide +kernel
theorem dX11_writeState_129 : decode cX11_writeState 129 = .ok (.imul, 1) := by decide +kernel
theorem dX11_writeState_130 : decode cX11_writeState 130 = .ok (.istore 4, 2) := by decide +kernel
theorem dX11_writeState_132 : decode cX11_writeState 132 = .ok (.aload_n 0, 1) := by decide +kernel
theorem dX11_writeState_133 : decode cX11_writeState 133 = .ok (.iload_n 1, 1) := by decide +kernel
theorem dX11_writeState_134 : decode cX11_writeState 134 = .ok (.invokevirtual 102, 3) := by decide +kernel
theorem dX11_writeState_137 : decode cX11_writeState 137 = .ok (.aload_n 0, 1) := by decide +kernel
theorem dX11_writeState_138 : decode cX11_writeState 138 = .ok (.iload 4, 2) := by decide +kernel
theorem dX11_writeState_140 : decode cX11_writeState 140 = .ok (.invokevirtual 209, 3) := by decide +kernel
theorem dX11_writeState_143 : decode cX11_writeState 143 = .ok (.aload_n 0, 1) := by decide +kernel
theorem dX11_writeState_144 : decode cX11_writeState 144 = .ok (.invokevirtual 99, 3) := by decide +kernel
theorem dX11_writeState_147 : decode cX11_writeState 147 = .ok (.return_, 1) := by decide +kernel
theorem dX11_docWide_0 : decode cX11_docWide 0 = .ok (.iconst 0, 1) := by decide +kernel
theorem dX11_docWide_1 : decode cX11_docWide 1 = .ok (.istore_n 3, 1) := by decide +kernel
theorem dX11_docWide_2 : decode cX11_docWide 2 = .ok (.iconst 0, 1) := by decide +kernel
theorem dX11_docWide_3 : decode cX11_docWide 3 = .ok (.istore 4, 2) := by decide +kernel
theorem dX11_docWide_5 : decode cX11_docWide 5 = .ok (.iload 4, 2) := by decide +kernel
theorem dX11_docWide_7 : decode cX11_docWide 7 = .ok (.iload_n 2, 1) := by decide +kernel
theorem dX11_docWide_8 : decode cX11_docWide 8 = .ok (.if_icmp .ge 24, 3) := by decide +kernel
theorem dX11_docWide_11 : decode cX11_docWide 11 = .ok (.iload_n 3, 1) := by decide +kernel
theorem dX11_docWide_12 : decode cX11_docWide 12 = .ok (.bipush 8, 2) := by decide +kernel
theorem dX11_docWide_14 : decode cX11_docWide 14 = .ok (.ishl, 1) := by decide +kernel
theorem dX11_docWide_15 : decode cX11_docWide 15 = .ok (.aload_n 0, 1) := by decide +kernel
theorem dX11_docWide_16 : decode cX11_docWide 16 = .ok (.getfield 23, 3) := by decide +kernel
theorem dX11_docWide_19 : decode cX11_docWide 19 = .ok (.iload_n 1, 1) := by decide +kernel
theorem dX11_docWide_20 : decode cX11_docWide 20 = .ok (.iload 4, 2) := by decide +kernel
theorem dX11_docWide_22 : decode cX11_docWide 22 = .ok (.iadd, 1) := by decide +kernel
theorem dX11_docWide_23 : decode cX11_docWide 23 = .ok (.iaload, 1) := by decide +kernel
theorem dX11_docWide_24 : decode cX11_docWide 24 = .ok (.ior, 1) := by decide +kernel
theorem dX11_docWide_25 : decode cX11_docWide 25 = .ok (.istore_n 3, 1) := by decide +kernel
theorem dX11_docWide_26 : decode cX11_docWide 26 = .ok (.iinc 4 1, 3) := by decide +kernel
theorem dX11_docWide_29 : decode cX11_docWide 29 = .ok (.goto (-24), 3) := by decide +kernel
theorem dX11_docWide_32 : decode cX11_docWide 32 = .ok (.iload_n 3, 1) := by decide +kernel
theorem dX11_docWide_33 : decode cX11_docWide 33 = .ok (.ireturn, 1) := by decide +kernel
theorem dX11_docLong_0 : decode cX11_docLong 0 = .ok (.aload_n 0, 1) := by decide +kernel
theorem dX11_docLong_1 : decode cX11_docLong 1 = .ok (.iload_n 1, 1) := by decide +kernel
theorem dX11_docLong_2 : decode cX11_docLong 2 = .ok (.iconst 4, 1) := by decide +kernel
theorem dX11_docLong_3 : decode cX11_docLong 3 = .ok (.invokevirtual 212, 3) := by decide +kernel
theorem dX11_docLong_6 : decode cX11_docLong 6 = .ok (.i2l, 1) := by decide +kernel
theorem dX11_docLong_7 : decode cX11_docLong 7 = .ok (.bipush 32, 2) := by decide +kernel
theorem dX11_docLong_9 : decode cX11_docLong 9 = .ok (.lshl, 1) := by decide +kernel
theorem dX11_docLong_10 : decode cX11_docLong 10 = .ok (.aload_n 0, 1) := by decide +kernel
theorem dX11_docLong_11 : decode cX11_docLong 11 = .ok (.iload_n 1, 1) := by decide +kernel
theorem dX11_docLong_12 : decode cX11_docLong 12 = .ok (.iconst 4, 1) := by decide +kernel
theorem dX11_docLong_13 : decode cX11_docLong 13 = .ok (.iadd, 1) := by decide +kernel
theorem dX11_docLong_14 : decode cX11_docLong 14 = .ok (.iconst 4, 1) := by decide +kernel
theorem dX11_docLong_15 : decode cX11_docLong 15 = .ok (.invokevirtual 212, 3) := by decide +kernel
theorem dX11_docLong_18 : decode cX11_docLong 18 = .ok (.i2l, 1) := by decide +kernel
theorem dX11_docLong_19 : decode cX11_docLong 19 = .ok (.ldc2_w 215, 3) := by decide +kernel
theorem dX11_docLong_22 : decode cX11_docLong 22 = .ok (.land, 1) := by decide +kernel
theorem dX11_docLong_23 : decode cX11_docLong 23 = .ok (.lor, 1) := by decide +kernel
theorem dX11_docLong_24 : decode cX11_docLong 24 = .ok (.lreturn, 1) := by decide +kernel
theorem dX11_keysAt_0 : decode cX11_keysAt 0 = .ok (.iconst 0, 1) := by decide +kernel
theorem dX11_keysAt_1 : decode cX11_keysAt 1 = .ok (.istore_n 3, 1) := by decide +kernel
theorem dX11_keysAt_2 : decode cX11_keysAt 2 = .ok (.iconst (-1), 1) := by decide +kernel
theorem dX11_keysAt_3 : decode cX11_keysAt 3 = .ok (.istore 4, 2) := by decide +kernel
theorem dX11_keysAt_5 : decode cX11_keysAt 5 = .ok (.iconst 0, 1) := by decide +kernel
theorem dX11_keysAt_6 : decode cX11_keysAt 6 = .ok (.istore 5, 2) := by decide +kernel
theorem dX11_keysAt_8 : decode cX11_keysAt 8 = .ok (.iload 5, 2) := by decide +kernel
theorem dX11_keysAt_10 : decode cX11_keysAt 10 = .ok (.iload_n 2, 1) := by decide +kernel
theorem dX11_keysAt_11 : decode cX11_keysAt 11 = .ok (.if_icmp .ge 47, 3) := by decide +kernel
theorem dX11_keysAt_14 : decode cX11_keysAt 14 = .ok (.aload_n 0, 1) := by decide +kernel
theorem dX11_keysAt_15 : decode cX11_keysAt 15 = .ok (.getfield 23, 3) := by decide +kernel
theorem dX11_keysAt_18 : decode cX11_keysAt 18 = .ok (.iload_n 1, 1) := by decide +kernel
theorem dX11_keysAt_19 : decode cX11_keysAt 19 = .ok (.iload 5, 2) := by decide +kernel
theorem dX11_keysAt_21 : decode cX11_keysAt 21 = .ok (.iadd, 1) := by decide +kernel
theorem dX11_keysAt_22 : decode cX11_keysAt 22 = .ok (.iaload, 1) := by decide +kernel
theorem dX11_keysAt_23 : decode cX11_keysAt 23 = .ok (.istore 6, 2) := by decide +kernel
theorem dX11_keysAt_25 : decode cX11_keysAt 25 = .ok (.iload 6, 2) := by decide +kernel
theorem dX11_keysAt_27 : decode cX11_keysAt 27 = .ok (.iload 4, 2) := by decide +kernel
theorem dX11_keysAt_29 : decode cX11_keysAt 29 = .ok (.if_icmp .le 10, 3) := by decide +kernel
theorem dX11_keysAt_32 : decode cX11_keysAt 32 = .ok (.iload 6, 2) := by decide +kernel
theorem dX11_keysAt_34 : decode cX11_keysAt 34 = .ok (.bipush 15, 2) := by decide +kernel
theorem dX11_keysAt_36 : decode cX11_keysAt 36 = .ok (.if_icmp .le 5, 3) := by decide +kernel
theorem dX11_keysAt_39 : decode cX11_keysAt 39 = .ok (.iconst (-1), 1) := by decide +kernel
theorem dX11_keysAt_40 : decode cX11_keysAt 40 = .ok (.ireturn, 1) := by decide +kernel
theorem dX11_keysAt_41 : decode cX11_keysAt 41 = .ok (.iload 6, 2) := by decide +kernel
theorem dX11_keysAt_43 : decode cX11_keysAt 43 = .ok (.istore 4, 2) := by decide +kernel
theorem dX11_keysAt_45 : decode cX11_keysAt 45 = .ok (.iload_n 3, 1) := by decide +kernel
theorem dX11_keysAt_46 : decode cX11_keysAt 46 = .ok (.iconst 1, 1) := by decide +kernel
theorem dX11_keysAt_47 : decode cX11_keysAt 47 = .ok (.iload 6, 2) := by decide +kernel
theorem dX11_keysAt_49 : decode cX11_keysAt 49 = .ok (.ishl, 1) := by decide +kernel
theorem dX11_keysAt_50 : decode cX11_keysAt 50 = .ok (.ior, 1) := by decide +kernel
theorem dX11_keysAt_51 : decode cX11_keysAt 51 = .ok (.istore_n 3, 1) := by decide +kernel
theorem dX11_keysAt_52 : decode cX11_keysAt 52 = .ok (.iinc 5 1, 3) := by decide +kernel
theorem dX11_keysAt_55 : decode cX11_keysAt 55 = .ok (.goto (-47), 3) := by decide +kernel
theorem dX11_keysAt_58 : decode cX11_keysAt 58 = .ok (.iload_n 3, 1) := by decide +kernel
theorem dX11_keysAt_59 : decode cX11_keysAt 59 = .ok (.ireturn, 1) := by decide +kernel
theorem dX11_readDoc_0 : decode cX11_readDoc 0 = .ok (.aload_n 0, 1) := by decide +kernel
theorem dX11_readDoc_1 : decode cX11_readDoc 1 = .ok (.getfield 217, 3) := by decide +kernel
theorem dX11_readDoc_4 : decode cX11_readDoc 4 = .ok (.bipush 10, 2) := by decide +kernel
theorem dX11_readDoc_6 : decode cX11_readDoc 6 = .ok (.if_icmp .ge 5, 3) := by decide +kernel
theorem dX11_readDoc_9 : decode cX11_readDoc 9 = .ok (.iconst 0, 1) := by decide +kernel
theorem dX11_readDoc_10 : decode cX11_readDoc 10 = .ok (.ireturn, 1) := by decide +kernel
theorem dX11_readDoc_11 : decode cX11_readDoc 11 = .ok (.aload_n 0, 1) := by decide +kernel
theorem dX11_readDoc_12 : decode cX11_readDoc 12 = .ok (.aload_n 0, 1) := by decide +kernel
theorem dX11_readDoc_13 : decode cX11_readDoc 13 = .ok (.getfield 23, 3) := by decide +kernel
theorem dX11_readDoc_16 : decode cX11_readDoc 16 = .ok (.iconst 0, 1) := by decide +kernel
theorem dX11_readDoc_17 : decode cX11_readDoc 17 = .ok (.iaload, 1) := by decide +kernel
theorem dX11_readDoc_18 : decode cX11_readDoc 18 = .ok (.putfield 220, 3) := by decide +kernel
theorem dX11_readDoc_21 : decode cX11_readDoc 21 = .ok (.aload_n 0, 1) := by decide +kernel
theorem dX11_readDoc_22 : decode cX11_readDoc 22 = .ok (.iconst 3, 1) := by decide +kernel
theorem dX11_readDoc_23 : decode cX11_readDoc 23 = .ok (.putfield 223, 3) := by decide +kernel
theorem dX11_readDoc_26 : decode cX11_readDoc 26 = .ok (.aload_n 0, 1) := by decide +kernel
theorem dX11_readDoc_27 : decode cX11_readDoc 27 = .ok (.aload_n 0, 1) := by decide +kernel
theorem dX11_readDoc_28 : decode cX11_readDoc 28 = .ok (.iconst 1, 1) := by decide +kernel
theorem dX11_readDoc_29 : decode cX11_readDoc 29 = .ok (.iconst 2, 1) := by decide +kernel
theorem dX11_readDoc_30 : decode cX11_readDoc 30 = .ok (.invokevirtual 212, 3) := by decide +kernel
theorem dX11_readDoc_33 : decode cX11_readDoc 33 = .ok (.putfield 226, 3) := by decide +kernel
theorem dX11_readDoc_36 : decode cX11_readDoc 36 = .ok (.iconst 3, 1) := by decide +kernel
theorem dX11_readDoc_37 : decode cX11_readDoc 37 = .ok (.aload_n 0, 1) := by decide +kernel
theorem dX11_readDoc_38 : decode cX11_readDoc 38 = .ok (.getfield 226, 3) := by decide +kernel
theorem dX11_readDoc_41 : decode cX11_readDoc 41 = .ok (.iadd, 1) := by decide +kernel
theorem dX11_readDoc_42 : decode cX11_readDoc 42 = .ok (.istore_n 1, 1) := by decide +kernel
theorem dX11_readDoc_43 : decode cX11_readDoc 43 = .ok (.aload_n 0, 1) := by decide +kernel
theorem dX11_readDoc_44 : decode cX11_readDoc 44 = .ok (.getfield 220, 3) := by decide +kernel
theorem dX11_readDoc_47 : decode cX11_readDoc 47 = .ok (.iconst 3, 1) := by decide +kernel
theorem dX11_readDoc_48 : decode cX11_readDoc 48 = .ok (.if_icmp .gt 37, 3) := by decide +kernel
theorem dX11_readDoc_51 : decode cX11_readDoc 51 = .ok (.aload_n 0, 1) := by decide +kernel
theorem dX11_readDoc_52 : decode cX11_readDoc 52 = .ok (.getfield 226, 3) := by decide +kernel
theorem dX11_readDoc_55 : decode cX11_readDoc 55 = .ok (.bipush 6, 2) := by decide +kernel
theorem dX11_readDoc_57 : decode cX11_readDoc 57 = .ok (.if_icmp .lt 28, 3) := by decide +kernel
theorem dX11_readDoc_60 : decode cX11_readDoc 60 = .ok (.iload_n 1, 1) := by decide +kernel
theorem dX11_readDoc_61 : decode cX11_readDoc 61 = .ok (.aload_n 0, 1) := by decide +kernel
theorem dX11_readDoc_62 : decode cX11_readDoc 62 = .ok (.getfield 217, 3) := by decide +kernel
theorem dX11_readDoc_65 : decode cX11_readDoc 65 = .ok (.if_icmp .ge 20, 3) := by decide +kernel
theorem dX11_readDoc_68 : decode cX11_readDoc 68 = .ok (.aload_n 0, 1) := by decide +kernel
theorem dX11_readDoc_69 : decode cX11_readDoc 69 = .ok (.getfield 217, 3) := by decide +kernel
theorem dX11_readDoc_72 : decode cX11_readDoc 72 = .ok (.iload_n 1, 1) := by decide +kernel
theorem dX11_readDoc_73 : decode cX11_readDoc 73 = .ok (.iconst 1, 1) := by decide +kernel
theorem dX11_readDoc_74 : decode cX11_readDoc 74 = .ok (.iadd, 1) := by decide +kernel
theorem dX11_readDoc_75 : decode cX11_readDoc 75 = .ok (.aload_n 0, 1) := by decide +kernel
theorem dX11_readDoc_76 : decode cX11_readDoc 76 = .ok (.getfield 23, 3) := by decide +kernel
theorem dX11_readDoc_79 : decode cX11_readDoc 79 = .ok (.iload_n 1, 1) := by decide +kernel
theorem dX11_readDoc_80 : decode cX11_readDoc 80 = .ok (.iaload, 1) := by decide +kernel
theorem dX11_readDoc_81 : decode cX11_readDoc 81 = .ok (.iadd, 1) := by decide +kernel
theorem dX11_readDoc_82 : decode cX11_readDoc 82 = .ok (.if_icmp .eq 5, 3) := by decide +kernel
theorem dX11_readDoc_85 : decode cX11_readDoc 85 = .ok (.iconst 0, 1) := by decide +kernel
theorem dX11_readDoc_86 : decode cX11_readDoc 86 = .ok (.ireturn, 1) := by decide +kernel
theorem dX11_readDoc_87 : decode cX11_readDoc 87 = .ok (.aload_n 0, 1) := by decide +kernel
theorem dX11_readDoc_88 : decode cX11_readDoc 88 = .ok (.aload_n 0, 1) := by decide +kernel
theorem dX11_readDoc_89 : decode cX11_readDoc 89 = .ok (.iload_n 1, 1) := by decide +kernel
theorem dX11_readDoc_90 : decode cX11_readDoc 90 = .ok (.iconst 1, 1) := by decide +kernel
theorem dX11_readDoc_91 : decode cX11_readDoc 91 = .ok (.iadd, 1) := by decide +kernel
theorem dX11_readDoc_92 : decode cX11_readDoc 92 = .ok (.aload_n 0, 1) := by decide +kernel
theorem dX11_readDoc_93 : decode cX11_readDoc 93 = .ok (.getfield 23, 3) := by decide +kernel
theorem dX11_readDoc_96 : decode cX11_readDoc 96 = .ok (.iload_n 1, 1) := by decide +kernel
theorem dX11_readDoc_97 : decode cX11_readDoc 97 = .ok (.iaload, 1) := by decide +kernel
theorem dX11_readDoc_98 : decode cX11_readDoc 98 = .ok (.invokevirtual 229, 3) := by decide +kernel
theorem dX11_readDoc_101 : decode cX11_readDoc 101 = .ok (.putfield 232, 3) := by decide +kernel
theorem dX11_readDoc_104 : decode cX11_readDoc 104 = .ok (.aload_n 0, 1) := by decide +kernel
theorem dX11_readDoc_105 : decode cX11_readDoc 105 = .ok (.aload_n 0, 1) := by decide +kernel
theorem dX11_readDoc_106 : decode cX11_readDoc 106 = .ok (.iconst 3, 1) := by decide +kernel
theorem dX11_readDoc_107 : decode cX11_readDoc 107 = .ok (.iconst 2, 1) := by decide +kernel
theorem dX11_readDoc_108 : decode cX11_readDoc 108 = .ok (.invokevirtual 212, 3) := by decide +kernel
theorem dX11_readDoc_111 : decode cX11_readDoc 111 = .ok (.putfield 235, 3) := by decide +kernel
theorem dX11_readDoc_114 : decode cX11_readDoc 114 = .ok (.aload_n 0, 1) := by decide +kernel
theorem dX11_readDoc_115 : decode cX11_readDoc 115 = .ok (.aload_n 0, 1) := by decide +kernel
theorem dX11_readDoc_116 : decode cX11_readDoc 116 = .ok (.iconst 5, 1) := by decide +kernel
theorem dX11_readDoc_117 : decode cX11_readDoc 117 = .ok (.iconst 4, 1) := by decide +kernel
theorem dX11_readDoc_118 : decode cX11_readDoc 118 = .ok (.invokevirtual 212, 3) := by decide +kernel
theorem dX11_readDoc_121 : decode cX11_readDoc 121 = .ok (.i2l, 1) := by decide +kernel
theorem dX11_readDoc_122 : decode cX11_readDoc 122 = .ok (.ldc2_w 215, 3) := by decide +kernel
theorem dX11_readDoc_125 : decode cX11_readDoc 125 = .ok (.land, 1) := by decide +kernel
theorem dX11_readDoc_126 : decode cX11_readDoc 126 = .ok (.putfield 238, 3) := by decide +kernel
theorem dX11_readDoc_129 : decode cX11_readDoc 129 = .ok (.aload_n 0, 1) := by decide +kernel
theorem dX11_readDoc_130 : decode cX11_readDoc 130 = .ok (.getfield 232, 3) := by decide +kernel
theorem dX11_readDoc_133 : decode cX11_readDoc 133 = .ok (.ifCond .lt 11, 3) := by decide +kernel
theorem dX11_readDoc_136 : decode cX11_readDoc 136 = .ok (.aload_n 0, 1) := by decide +kernel
theorem dX11_readDoc_137 : decode cX11_readDoc 137 = .ok (.getfield 235, 3) := by decide +kernel
theorem dX11_readDoc_140 : decode cX11_readDoc 140 = .ok (.iconst 1, 1) := by decide +kernel
theorem dX11_readDoc_141 : decode cX11_readDoc 141 = .ok (.if_icmp .ge 5, 3) := by decide +kernel
theorem dX11_readDoc_144 : decode cX11_readDoc 144 = .ok (.iconst 0, 1) := by decide +kernel
theorem dX11_readDoc_145 : decode cX11_readDoc 145 = .ok (.ireturn, 1) := by decide +kernel
theorem dX11_readDoc_146 : decode cX11_readDoc 146 = .ok (.aload_n 0, 1) := by decide +kernel
theorem dX11_readDoc_147 : decode cX11_readDoc 147 = .ok (.getfield 220, 3) := by decide +kernel
theorem dX11_readDoc_150 : decode cX11_readDoc 150 = .ok (.ifCond .ne 8, 3) := by decide +kernel
theorem dX11_readDoc_153 : decode cX11_readDoc 153 = .ok (.aload_n 0, 1) := by decide +kernel
theorem dX11_readDoc_154 : decode cX11_readDoc 154 = .ok (.invokevirtual 241, 3) := by decide +kernel
theorem dX11_readDoc_157 : decode cX11_readDoc 157 = .ok (.ireturn, 1) := by decide +kernel
theorem dX11_readDoc_158 : decode cX11_readDoc 158 = .ok (.aload_n 0, 1) := by decide +kernel
theorem dX11_readDoc_159 : decode cX11_readDoc 159 = .ok (.getfield 220, 3) := by decide +kernel
theorem dX11_readDoc_162 : decode cX11_readDoc 162 = .ok (.iconst 3, 1) := by decide +kernel
theorem dX11_readDoc_163 : decode cX11_readDoc 163 = .ok (.if_icmp .ne 8, 3) := by decide +kernel
theorem dX11_readDoc_166 : decode cX11_readDoc 166 = .ok (.aload_n 0, 1) := by decide +kernel
theorem dX11_readDoc_167 : decode cX11_readDoc 167 = .ok (.invokevirtual 244, 3) := by decide +kernel
theorem dX11_readDoc_170 : decode cX11_readDoc 170 = .ok (.ireturn, 1) := by decide +kernel
theorem dX11_readDoc_171 : decode cX11_readDoc 171 = .ok (.aload_n 0, 1) := by decide +kernel
theorem dX11_readDoc_172 : decode cX11_readDoc 172 = .ok (.getfield 226, 3) := by decide +kernel
theorem dX11_readDoc_175 : decode cX11_readDoc 175 = .ok (.bipush 16, 2) := by decide +kernel
theorem dX11_readDoc_177 : decode cX11_readDoc 177 = .ok (.if_icmp .eq 5, 3) := by decide +kernel
theorem dX11_readDoc_180 : decode cX11_readDoc 180 = .ok (.iconst 0, 1) := by decide +kernel
theorem dX11_readDoc_181 : decode cX11_readDoc 181 = .ok (.ireturn, 1) := by decide +kernel
theorem dX11_readDoc_182 : decode cX11_readDoc 182 = .ok (.aload_n 0, 1) := by decide +kernel
theorem dX11_readDoc_183 : decode cX11_readDoc 183 = .ok (.aload_n 0, 1) := by decide +kernel
theorem dX11_readDoc_184 : decode cX11_readDoc 184 = .ok (.bipush 9, 2) := by decide +kernel
theorem dX11_readDoc_186 : decode cX11_readDoc 186 = .ok (.iconst 2, 1) := by decide +kernel
theorem dX11_readDoc_187 : decode cX11_readDoc 187 = .ok (.invokevirtual 212, 3) := by decide +kernel
theorem dX11_readDoc_190 : decode cX11_readDoc 190 = .ok (.putfield 247, 3) := by decide +kernel
theorem dX11_readDoc_193 : decode cX11_readDoc 193 = .ok (.aload_n 0, 1) := by decide +kernel
theorem dX11_readDoc_194 : decode cX11_readDoc 194 = .ok (.aload_n 0, 1) := by decide +kernel
theorem dX11_readDoc_195 : decode cX11_readDoc 195 = .ok (.bipush 11, 2) := by decide +kernel
theorem dX11_readDoc_197 : decode cX11_readDoc 197 = .ok (.invokevirtual 250, 3) := by decide +kernel
theorem dX11_readDoc_200 : decode cX11_readDoc 200 = .ok (.putfield 253, 3) := by decide +kernel
theorem dX11_readDoc_203 : decode cX11_readDoc 203 = .ok (.aload_n 0, 1) := by decide +kernel
theorem dX11_readDoc_204 : decode cX11_readDoc 204 = .ok (.getfield 247, 3) := by decide +kernel
theorem dX11_readDoc_207 : decode cX11_readDoc 207 = .ok (.iconst 1, 1) := by decide +kernel
theorem dX11_readDoc_208 : decode cX11_readDoc 208 = .ok (.if_icmp .lt 7, 3) := by decide +kernel
theorem dX11_readDoc_211 : decode cX11_readDoc 211 = .ok (.iconst 1, 1) := by decide +kernel
theorem dX11_readDoc_212 : decode cX11_readDoc 212 = .ok (.goto 4, 3) := by decide +kernel
theorem dX11_readDoc_215 : decode cX11_readDoc 215 = .ok (.iconst 0, 1) := by decide +kernel
theorem dX11_readDoc_216 : decode cX11_readDoc 216 = .ok (.ireturn, 1) := by decide +kernel
theorem dX11_readRoles_0 : decode cX11_readRoles 0 = .ok (.bipush 9, 2) := by decide +kernel
theorem dX11_readRoles_2 : decode cX11_readRoles 2 = .ok (.istore_n 1, 1) := by decide +kernel
theorem dX11_readRoles_3 : decode cX11_readRoles 3 = .ok (.iconst 3, 1) := by decide +kernel
theorem dX11_readRoles_4 : decode cX11_readRoles 4 = .ok (.aload_n 0, 1) := by decide +kernel
theorem dX11_readRoles_5 : decode cX11_readRoles 5 = .ok (.getfield 226, 3) := by decide +kernel
theorem dX11_readRoles_8 : decode cX11_readRoles 8 = .ok (.iadd, 1) := by decide +kernel
theorem dX11_readRoles_9 : decode cX11_readRoles 9 = .ok (.istore_n 2, 1) := by decide +kernel
theorem dX11_readRoles_10 : decode cX11_readRoles 10 = .ok (.iconst 0, 1) := by decide +kernel
theorem dX11_readRoles_11 : decode cX11_readRoles 11 = .ok (.istore_n 3, 1) := by decide +kernel
theorem dX11_readRoles_12 : decode cX11_readRoles 12 = .ok (.iload_n 3, 1) := by decide +kernel
theorem dX11_readRoles_13 : decode cX11_readRoles 13 = .ok (.iconst 4, 1) := by decide +kernel
theorem dX11_readRoles_14 : decode cX11_readRoles 14 = .ok (.if_icmp .ge 108, 3) := by decide +kernel
theorem dX11_readRoles_17 : decode cX11_readRoles 17 = .ok (.iload_n 1, 1) := by decide +kernel
theorem dX11_readRoles_18 : decode cX11_readRoles 18 = .ok (.iconst 2, 1) := by decide +kernel
theorem dX11_readRoles_19 : decode cX11_readRoles 19 = .ok (.iadd, 1) := by decide +kernel
theorem dX11_readRoles_20 : decode cX11_readRoles 20 = .ok (.iload_n 2, 1) := by decide +kernel
theorem dX11_readRoles_21 : decode cX11_readRoles 21 = .ok (.if_icmp .le 5, 3) := by decide +kernel
theorem dX11_readRoles_24 : decode cX11_readRoles 24 = .ok (.iconst 0, 1) := by decide +kernel
theorem dX11_readRoles_25 : decode cX11_readRoles 25 = .ok (.ireturn, 1) := by decide +kernel
theorem dX11_readRoles_26 : decode cX11_readRoles 26 = .ok (.aload_n 0, 1) := by decide +kernel
theorem dX11_readRoles_27 : decode cX11_readRoles 27 = .ok (.getfield 23, 3) := by decide +kernel
theorem dX11_readRoles_30 : decode cX11_readRoles 30 = .ok (.iload_n 1, 1) := by decide +kernel
theorem dX11_readRoles_31 : decode cX11_readRoles 31 = .ok (.iaload, 1) := by decide +kernel
theorem dX11_readRoles_32 : decode cX11_readRoles 32 = .ok (.istore 4, 2) := by decide +kernel
theorem dX11_readRoles_34 : decode cX11_readRoles 34 = .ok (.aload_n 0, 1) := by decide +kernel
theorem dX11_readRoles_35 : decode cX11_readRoles 35 = .ok (.getfield 23, 3) := by decide +kernel
theorem dX11_readRoles_38 : decode cX11_readRoles 38 = .ok (.iload_n 1, 1) := by decide +kernel
theorem dX11_readRoles_39 : decode cX11_readRoles 39 = .ok (.iconst 1, 1) := by decide +kernel
theorem dX11_readRoles_40 : decode cX11_readRoles 40 = .ok (.iadd, 1) := by decide +kernel
theorem dX11_readRoles_41 : decode cX11_readRoles 41 = .ok (.iaload, 1) := by decide +kernel
theorem dX11_readRoles_42 : decode cX11_readRoles 42 = .ok (.istore 5, 2) := by decide +kernel
theorem dX11_readRoles_44 : decode cX11_readRoles 44 = .ok (.iload 5, 2) := by decide +kernel
theorem dX11_readRoles_46 : decode cX11_readRoles 46 = .ok (.iconst 5, 1) := by decide +kernel
theorem dX11_readRoles_47 : decode cX11_readRoles 47 = .ok (.if_icmp .gt 26, 3) := by decide +kernel
theorem dX11_readRoles_50 : decode cX11_readRoles 50 = .ok (.iload 4, 2) := by decide +kernel
theorem dX11_readRoles_52 : decode cX11_readRoles 52 = .ok (.iconst 1, 1) := by decide +kernel
theorem dX11_readRoles_53 : decode cX11_readRoles 53 = .ok (.if_icmp .lt 20, 3) := by decide +kernel
theorem dX11_readRoles_56 : decode cX11_readRoles 56 = .ok (.iload 4, 2) := by decide +kernel
theorem dX11_readRoles_58 : decode cX11_readRoles 58 = .ok (.iload 5, 2) := by decide +kernel
theorem dX11_readRoles_60 : decode cX11_readRoles 60 = .ok (.if_icmp .gt 13, 3) := by decide +kernel
theorem dX11_readRoles_63 : decode cX11_readRoles 63 = .ok (.iload_n 1, 1) := by decide +kernel
theorem dX11_readRoles_64 : decode cX11_readRoles 64 = .ok (.iconst 2, 1) := by decide +kernel
theorem dX11_readRoles_65 : decode cX11_readRoles 65 = .ok (.iadd, 1) := by decide +kernel
theorem dX11_readRoles_66 : decode cX11_readRoles 66 = .ok (.iload 5, 2) := by decide +kernel
theorem dX11_readRoles_68 : decode cX11_readRoles 68 = .ok (.iadd, 1) := by decide +kernel
theorem dX11_readRoles_69 : decode cX11_readRoles 69 = .ok (.iload_n 2, 1) := by decide +kernel
theorem dX11_readRoles_70 : decode cX11_readRoles 70 = .ok (.if_icmp .le 5, 3) := by decide +kernel
theorem dX11_readRoles_73 : decode cX11_readRoles 73 = .ok (.iconst 0, 1) := by decide +kernel
theorem dX11_readRoles_74 : decode cX11_readRoles 74 = .ok (.ireturn, 1) := by decide +kernel
theorem dX11_readRoles_75 : decode cX11_readRoles 75 = .ok (.aload_n 0, 1) := by decide +kernel
theorem dX11_readRoles_76 : decode cX11_readRoles 76 = .ok (.getfield 26, 3) := by decide +kernel
theorem dX11_readRoles_79 : decode cX11_readRoles 79 = .ok (.iload_n 3, 1) := by decide +kernel
theorem dX11_readRoles_80 : decode cX11_readRoles 80 = .ok (.aload_n 0, 1) := by decide +kernel
theorem dX11_readRoles_81 : decode cX11_readRoles 81 = .ok (.iload_n 1, 1) := by decide +kernel
theorem dX11_readRoles_82 : decode cX11_readRoles 82 = .ok (.iconst 2, 1) := by decide +kernel
theorem dX11_readRoles_83 : decode cX11_readRoles 83 = .ok (.iadd, 1) := by decide +kernel
theorem dX11_readRoles_84 : decode cX11_readRoles 84 = .ok (.iload 5, 2) := by decide +kernel
theorem dX11_readRoles_86 : decode cX11_readRoles 86 = .ok (.invokevirtual 229, 3) := by decide +kernel
theorem dX11_readRoles_89 : decode cX11_readRoles 89 = .ok (.iastore, 1) := by decide +kernel
theorem dX11_readRoles_90 : decode cX11_readRoles 90 = .ok (.aload_n 0, 1) := by decide +kernel
theorem dX11_readRoles_91 : decode cX11_readRoles 91 = .ok (.getfield 29, 3) := by decide +kernel
theorem dX11_readRoles_94 : decode cX11_readRoles 94 = .ok (.iload_n 3, 1) := by decide +kernel
theorem dX11_readRoles_95 : decode cX11_readRoles 95 = .ok (.iload 4, 2) := by decide +kernel
theorem dX11_readRoles_97 : decode cX11_readRoles 97 = .ok (.iastore, 1) := by decide +kernel
theorem dX11_readRoles_98 : decode cX11_readRoles 98 = .ok (.aload_n 0, 1) := by decide +kernel
theorem dX11_readRoles_99 : decode cX11_readRoles 99 = .ok (.getfield 26, 3) := by decide +kernel
theorem dX11_readRoles_102 : decode cX11_readRoles 102 = .ok (.iload_n 3, 1) := by decide +kernel
theorem dX11_readRoles_103 : decode cX11_readRoles 103 = .ok (.iaload, 1) := by decide +kernel
theorem dX11_readRoles_104 : decode cX11_readRoles 104 = .ok (.ifCond .ge 5, 3) := by decide +kernel
theorem dX11_readRoles_107 : decode cX11_readRoles 107 = .ok (.iconst 0, 1) := by decide +kernel
theorem dX11_readRoles_108 : decode cX11_readRoles 108 = .ok (.ireturn, 1) := by decide +kernel
theorem dX11_readRoles_109 : decode cX11_readRoles 109 = .ok (.iload_n 1, 1) := by decide +kernel
theorem dX11_readRoles_110 : decode cX11_readRoles 110 = .ok (.iconst 2, 1) := by decide +kernel
theorem dX11_readRoles_111 : decode cX11_readRoles 111 = .ok (.iload 5, 2) := by decide +kernel
theorem dX11_readRoles_113 : decode cX11_readRoles 113 = .ok (.iadd, 1) := by decide +kernel
theorem dX11_readRoles_114 : decode cX11_readRoles 114 = .ok (.iadd, 1) := by decide +kernel
theorem dX11_readRoles_115 : decode cX11_readRoles 115 = .ok (.istore_n 1, 1) := by decide +kernel
theorem dX11_readRoles_116 : decode cX11_readRoles 116 = .ok (.iinc 3 1, 3) := by decide +kernel
theorem dX11_readRoles_119 : decode cX11_readRoles 119 = .ok (.goto (-107), 3) := by decide +kernel
theorem dX11_readRoles_122 : decode cX11_readRoles 122 = .ok (.iload_n 1, 1) := by decide +kernel
theorem dX11_readRoles_123 : decode cX11_readRoles 123 = .ok (.iload_n 2, 1) := by decide +kernel
theorem dX11_readRoles_124 : decode cX11_readRoles 124 = .ok (.if_icmp .ne 7, 3) := by decide +kernel
theorem dX11_readRoles_127 : decode cX11_readRoles 127 = .ok (.iconst 1, 1) := by decide +kernel
theorem dX11_readRoles_128 : decode cX11_readRoles 128 = .ok (.goto 4, 3) := by decide +kernel
theorem dX11_readRoles_131 : decode cX11_readRoles 131 = .ok (.iconst 0, 1) := by decide +kernel
theorem dX11_readRoles_132 : decode cX11_readRoles 132 = .ok (.ireturn, 1) := by decide +kernel
theorem dX11_readImages_0 : decode cX11_readImages 0 = .ok (.iconst 3, 1) := by decide +kernel
theorem dX11_readImages_1 : decode cX11_readImages 1 = .ok (.aload_n 0, 1) := by decide +kernel
theorem dX11_readImages_2 : decode cX11_readImages 2 = .ok (.getfield 226, 3) := by decide +kernel
theorem dX11_readImages_5 : decode cX11_readImages 5 = .ok (.iadd, 1) := by decide +kernel
theorem dX11_readImages_6 : decode cX11_readImages 6 = .ok (.istore_n 1, 1) := by decide +kernel
theorem dX11_readImages_7 : decode cX11_readImages 7 = .ok (.aload_n 0, 1) := by decide +kernel
theorem dX11_readImages_8 : decode cX11_readImages 8 = .ok (.getfield 226, 3) := by decide +kernel
theorem dX11_readImages_11 : decode cX11_readImages 11 = .ok (.bipush 7, 2) := by decide +kernel
theorem dX11_readImages_13 : decode cX11_readImages 13 = .ok (.if_icmp .ge 5, 3) := by decide +kernel
theorem dX11_readImages_16 : decode cX11_readImages 16 = .ok (.iconst 0, 1) := by decide +kernel
theorem dX11_readImages_17 : decode cX11_readImages 17 = .ok (.ireturn, 1) := by decide +kernel
theorem dX11_readImages_18 : decode cX11_readImages 18 = .ok (.aload_n 0, 1) := by decide +kernel
theorem dX11_readImages_19 : decode cX11_readImages 19 = .ok (.aload_n 0, 1) := by decide +kernel
theorem dX11_readImages_20 : decode cX11_readImages 20 = .ok (.getfield 23, 3) := by decide +kernel
theorem dX11_readImages_23 : decode cX11_readImages 23 = .ok (.bipush 9, 2) := by decide +kernel
theorem dX11_readImages_25 : decode cX11_readImages 25 = .ok (.iaload, 1) := by decide +kernel
theorem dX11_readImages_26 : decode cX11_readImages 26 = .ok (.putfield 256, 3) := by decide +kernel
theorem dX11_readImages_29 : decode cX11_readImages 29 = .ok (.aload_n 0, 1) := by decide +kernel
theorem dX11_readImages_30 : decode cX11_readImages 30 = .ok (.getfield 256, 3) := by decide +kernel
theorem dX11_readImages_33 : decode cX11_readImages 33 = .ok (.iconst 4, 1) := by decide +kernel
theorem dX11_readImages_34 : decode cX11_readImages 34 = .ok (.if_icmp .gt 17, 3) := by decide +kernel
theorem dX11_readImages_37 : decode cX11_readImages 37 = .ok (.bipush 10, 2) := by decide +kernel
theorem dX11_readImages_39 : decode cX11_readImages 39 = .ok (.bipush 12, 2) := by decide +kernel
theorem dX11_readImages_41 : decode cX11_readImages 41 = .ok (.aload_n 0, 1) := by decide +kernel
theorem dX11_readImages_42 : decode cX11_readImages 42 = .ok (.getfield 256, 3) := by decide +kernel
theorem dX11_readImages_45 : decode cX11_readImages 45 = .ok (.imul, 1) := by decide +kernel
theorem dX11_readImages_46 : decode cX11_readImages 46 = .ok (.iadd, 1) := by decide +kernel
theorem dX11_readImages_47 : decode cX11_readImages 47 = .ok (.iload_n 1, 1) := by decide +kernel
theorem dX11_readImages_48 : decode cX11_readImages 48 = .ok (.if_icmp .eq 5, 3) := by decide +kernel
theorem dX11_readImages_51 : decode cX11_readImages 51 = .ok (.iconst 0, 1) := by decide +kernel
theorem dX11_readImages_52 : decode cX11_readImages 52 = .ok (.ireturn, 1) := by decide +kernel
theorem dX11_readImages_53 : decode cX11_readImages 53 = .ok (.iconst 0, 1) := by decide +kernel
theorem dX11_readImages_54 : decode cX11_readImages 54 = .ok (.istore_n 2, 1) := by decide +kernel
theorem dX11_readImages_55 : decode cX11_readImages 55 = .ok (.iconst 0, 1) := by decide +kernel
theorem dX11_readImages_56 : decode cX11_readImages 56 = .ok (.istore_n 3, 1) := by decide +kernel
theorem dX11_readImages_57 : decode cX11_readImages 57 = .ok (.iload_n 3, 1) := by decide +kernel
theorem dX11_readImages_58 : decode cX11_readImages 58 = .ok (.aload_n 0, 1) := by decide +kernel
theorem dX11_readImages_59 : decode cX11_readImages 59 = .ok (.getfield 256, 3) := by decide +kernel
theorem dX11_readImages_62 : decode cX11_readImages 62 = .ok (.if_icmp .ge 101, 3) := by decide +kernel
theorem dX11_readImages_65 : decode cX11_readImages 65 = .ok (.bipush 10, 2) := by decide +kernel
theorem dX11_readImages_67 : decode cX11_readImages 67 = .ok (.bipush 12, 2) := by decide +kernel
theorem dX11_readImages_69 : decode cX11_readImages 69 = .ok (.iload_n 3, 1) := by decide +kernel
theorem dX11_readImages_70 : decode cX11_readImages 70 = .ok (.imul, 1) := by decide +kernel
theorem dX11_readImages_71 : decode cX11_readImages 71 = .ok (.iadd, 1) := by decide +kernel
theorem dX11_readImages_72 : decode cX11_readImages 72 = .ok (.istore 4, 2) := by decide +kernel
theorem dX11_readImages_74 : decode cX11_readImages 74 = .ok (.aload_n 0, 1) := by decide +kernel
theorem dX11_readImages_75 : decode cX11_readImages 75 = .ok (.getfield 32, 3) := by decide +kernel
theorem dX11_readImages_78 : decode cX11_readImages 78 = .ok (.iload_n 3, 1) := by decide +kernel
theorem dX11_readImages_79 : decode cX11_readImages 79 = .ok (.aload_n 0, 1) := by decide +kernel
theorem dX11_readImages_80 : decode cX11_readImages 80 = .ok (.iload 4, 2) := by decide +kernel
theorem dX11_readImages_82 : decode cX11_readImages 82 = .ok (.iconst 2, 1) := by decide +kernel
theorem dX11_readImages_83 : decode cX11_readImages 83 = .ok (.invokevirtual 212, 3) := by decide +kernel
theorem dX11_readImages_86 : decode cX11_readImages 86 = .ok (.iastore, 1) := by decide +kernel
theorem dX11_readImages_87 : decode cX11_readImages 87 = .ok (.aload_n 0, 1) := by decide +kernel
theorem dX11_readImages_88 : decode cX11_readImages 88 = .ok (.getfield 35, 3) := by decide +kernel
theorem dX11_readImages_91 : decode cX11_readImages 91 = .ok (.iload_n 3, 1) := by decide +kernel
theorem dX11_readImages_92 : decode cX11_readImages 92 = .ok (.aload_n 0, 1) := by decide +kernel
theorem dX11_readImages_93 : decode cX11_readImages 93 = .ok (.iload 4, 2) := by decide +kernel
theorem dX11_readImages_95 : decode cX11_readImages 95 = .ok (.iconst 2, 1) := by decide +kernel
theorem dX11_readImages_96 : decode cX11_readImages 96 = .ok (.iadd, 1) := by decide +kernel
theorem dX11_readImages_97 : decode cX11_readImages 97 = .ok (.iconst 2, 1) := by decide +kernel
theorem dX11_readImages_98 : decode cX11_readImages 98 = .ok (.invokevirtual 212, 3) := by decide +kernel
theorem dX11_readImages_101 : decode cX11_readImages 101 = .ok (.iastore, 1) := by decide +kernel
theorem dX11_readImages_102 : decode cX11_readImages 102 = .ok (.aload_n 0, 1) := by decide +kernel
theorem dX11_readImages_103 : decode cX11_readImages 103 = .ok (.getfield 38, 3) := by decide +kernel
theorem dX11_readImages_106 : decode cX11_readImages 106 = .ok (.iload_n 3, 1) := by decide +kernel
theorem dX11_readImages_107 : decode cX11_readImages 107 = .ok (.aload_n 0, 1) := by decide +kernel
theorem dX11_readImages_108 : decode cX11_readImages 108 = .ok (.iload 4, 2) := by decide +kernel
theorem dX11_readImages_110 : decode cX11_readImages 110 = .ok (.iconst 4, 1) := by decide +kernel
theorem dX11_readImages_111 : decode cX11_readImages 111 = .ok (.iadd, 1) := by decide +kernel
theorem dX11_readImages_112 : decode cX11_readImages 112 = .ok (.invokevirtual 250, 3) := by decide +kernel
theorem dX11_readImages_115 : decode cX11_readImages 115 = .ok (.lastore, 1) := by decide +kernel
theorem dX11_readImages_116 : decode cX11_readImages 116 = .ok (.aload_n 0, 1) := by decide +kernel
theorem dX11_readImages_117 : decode cX11_readImages 117 = .ok (.getfield 32, 3) := by decide +kernel
theorem dX11_readImages_120 : decode cX11_readImages 120 = .ok (.iload_n 3, 1) := by decide +kernel
theorem dX11_readImages_121 : decode cX11_readImages 121 = .ok (.iaload, 1) := by decide +kernel
theorem dX11_readImages_122 : decode cX11_readImages 122 = .ok (.iload_n 2, 1) := by decide +kernel
theorem dX11_readImages_123 : decode cX11_readImages 123 = .ok (.if_icmp .le 25, 3) := by decide +kernel
theorem dX11_readImages_126 : decode cX11_readImages 126 = .ok (.aload_n 0, 1) := by decide +kernel
theorem dX11_readImages_127 : decode cX11_readImages 127 = .ok (.getfield 35, 3) := by decide +kernel
theorem dX11_readImages_130 : decode cX11_readImages 130 = .ok (.iload_n 3, 1) := by decide +kernel
theorem dX11_readImages_131 : decode cX11_readImages 131 = .ok (.iaload, 1) := by decide +kernel
theorem dX11_readImages_132 : decode cX11_readImages 132 = .ok (.iconst 1, 1) := by decide +kernel
theorem dX11_readImages_133 : decode cX11_readImages 133 = .ok (.if_icmp .lt 15, 3) := by decide +kernel
theorem dX11_readImages_136 : decode cX11_readImages 136 = .ok (.aload_n 0, 1) := by decide +kernel
theorem dX11_readImages_137 : decode cX11_readImages 137 = .ok (.getfield 35, 3) := by decide +kernel
theorem dX11_readImages_140 : decode cX11_readImages 140 = .ok (.iload_n 3, 1) := by decide +kernel
theorem dX11_readImages_141 : decode cX11_readImages 141 = .ok (.iaload, 1) := by decide +kernel
theorem dX11_readImages_142 : decode cX11_readImages 142 = .ok (.sipush 1024, 3) := by decide +kernel
theorem dX11_readImages_145 : decode cX11_readImages 145 = .ok (.if_icmp .le 5, 3) := by decide +kernel
theorem dX11_readImages_148 : decode cX11_readImages 148 = .ok (.iconst 0, 1) := by decide +kernel
theorem dX11_readImages_149 : decode cX11_readImages 149 = .ok (.ireturn, 1) := by decide +kernel
theorem dX11_readImages_150 : decode cX11_readImages 150 = .ok (.aload_n 0, 1) := by decide +kernel
theorem dX11_readImages_151 : decode cX11_readImages 151 = .ok (.getfield 32, 3) := by decide +kernel
theorem dX11_readImages_154 : decode cX11_readImages 154 = .ok (.iload_n 3, 1) := by decide +kernel
theorem dX11_readImages_155 : decode cX11_readImages 155 = .ok (.iaload, 1) := by decide +kernel
theorem dX11_readImages_156 : decode cX11_readImages 156 = .ok (.istore_n 2, 1) := by decide +kernel
theorem dX11_readImages_157 : decode cX11_readImages 157 = .ok (.iinc 3 1, 3) := by decide +kernel
theorem dX11_readImages_160 : decode cX11_readImages 160 = .ok (.goto (-103), 3) := by decide +kernel
theorem dX11_readImages_163 : decode cX11_readImages 163 = .ok (.iconst 1, 1) := by decide +kernel
theorem dX11_readImages_164 : decode cX11_readImages 164 = .ok (.ireturn, 1) := by decide +kernel
theorem dX11_bodyDigest_0 : decode cX11_bodyDigest 0 = .ok (.aload_n 0, 1) := by decide +kernel
theorem dX11_bodyDigest_1 : decode cX11_bodyDigest 1 = .ok (.invokevirtual 113, 3) := by decide +kernel
theorem dX11_bodyDigest_4 : decode cX11_bodyDigest 4 = .ok (.iconst 0, 1) := by decide +kernel
theorem dX11_bodyDigest_5 : decode cX11_bodyDigest 5 = .ok (.istore_n 1, 1) := by decide +kernel
theorem dX11_bodyDigest_6 : decode cX11_bodyDigest 6 = .ok (.iload_n 1, 1) := by decide +kernel
theorem dX11_bodyDigest_7 : decode cX11_bodyDigest 7 = .ok (.aload_n 0, 1) := by decide +kernel
theorem dX11_bodyDigest_8 : decode cX11_bodyDigest 8 = .ok (.getfield 226, 3) := by decide +kernel
theorem dX11_bodyDigest_11 : decode cX11_bodyDigest 11 = .ok (.if_icmp .ge 24, 3) := by decide +kernel
theorem dX11_bodyDigest_14 : decode cX11_bodyDigest 14 = .ok (.aload_n 0, 1) := by decide +kernel
theorem dX11_bodyDigest_15 : decode cX11_bodyDigest 15 = .ok (.aload_n 0, 1) := by decide +kernel
theorem dX11_bodyDigest_16 : decode cX11_bodyDigest 16 = .ok (.getfield 23, 3) := by decide +kernel
theorem dX11_bodyDigest_19 : decode cX11_bodyDigest 19 = .ok (.aload_n 0, 1) := by decide +kernel
theorem dX11_bodyDigest_20 : decode cX11_bodyDigest 20 = .ok (.getfield 223, 3) := by decide +kernel
theorem dX11_bodyDigest_23 : decode cX11_bodyDigest 23 = .ok (.iload_n 1, 1) := by decide +kernel
theorem dX11_bodyDigest_24 : decode cX11_bodyDigest 24 = .ok (.iadd, 1) := by decide +kernel
theorem dX11_bodyDigest_25 : decode cX11_bodyDigest 25 = .ok (.iaload, 1) := by decide +kernel
theorem dX11_bodyDigest_26 : decode cX11_bodyDigest 26 = .ok (.invokevirtual 116, 3) := by decide +kernel
theorem dX11_bodyDigest_29 : decode cX11_bodyDigest 29 = .ok (.iinc 1 1, 3) := by decide +kernel
theorem dX11_bodyDigest_32 : decode cX11_bodyDigest 32 = .ok (.goto (-26), 3) := by decide +kernel
theorem dX11_bodyDigest_35 : decode cX11_bodyDigest 35 = .ok (.aload_n 0, 1) := by decide +kernel
theorem dX11_bodyDigest_36 : decode cX11_bodyDigest 36 = .ok (.getfield 108, 3) := by decide +kernel
theorem dX11_bodyDigest_39 : decode cX11_bodyDigest 39 = .ok (.lreturn, 1) := by decide +kernel
theorem dX11_hasSigned_0 : decode cX11_hasSigned 0 = .ok (.iconst 0, 1) := by decide +kernel
theorem dX11_hasSigned_1 : decode cX11_hasSigned 1 = .ok (.istore 4, 2) := by decide +kernel
theorem dX11_hasSigned_3 : decode cX11_hasSigned 3 = .ok (.iconst 0, 1) := by decide +kernel
theorem dX11_hasSigned_4 : decode cX11_hasSigned 4 = .ok (.istore 5, 2) := by decide +kernel
theorem dX11_hasSigned_6 : decode cX11_hasSigned 6 = .ok (.iload 5, 2) := by decide +kernel
theorem dX11_hasSigned_8 : decode cX11_hasSigned 8 = .ok (.aload_n 0, 1) := by decide +kernel
theorem dX11_hasSigned_9 : decode cX11_hasSigned 9 = .ok (.getfield 259, 3) := by decide +kernel
theorem dX11_hasSigned_12 : decode cX11_hasSigned 12 = .ok (.if_icmp .ge 44, 3) := by decide +kernel
theorem dX11_hasSigned_15 : decode cX11_hasSigned 15 = .ok (.iload 4, 2) := by decide +kernel
theorem dX11_hasSigned_17 : decode cX11_hasSigned 17 = .ok (.ifCond .ne 26, 3) := by decide +kernel
theorem dX11_hasSigned_20 : decode cX11_hasSigned 20 = .ok (.aload_n 0, 1) := by decide +kernel
theorem dX11_hasSigned_21 : decode cX11_hasSigned 21 = .ok (.getfield 42, 3) := by decide +kernel
theorem dX11_hasSigned_24 : decode cX11_hasSigned 24 = .ok (.iload 5, 2) := by decide +kernel
theorem dX11_hasSigned_26 : decode cX11_hasSigned 26 = .ok (.iaload, 1) := by decide +kernel
theorem dX11_hasSigned_27 : decode cX11_hasSigned 27 = .ok (.iload_n 1, 1) := by decide +kernel
theorem dX11_hasSigned_28 : decode cX11_hasSigned 28 = .ok (.if_icmp .ne 19, 3) := by decide +kernel
theorem dX11_hasSigned_31 : decode cX11_hasSigned 31 = .ok (.aload_n 0, 1) := by decide +kernel
theorem dX11_hasSigned_32 : decode cX11_hasSigned 32 = .ok (.getfield 45, 3) := by decide +kernel
theorem dX11_hasSigned_35 : decode cX11_hasSigned 35 = .ok (.iload 5, 2) := by decide +kernel
theorem dX11_hasSigned_37 : decode cX11_hasSigned 37 = .ok (.laload, 1) := by decide +kernel
theorem dX11_hasSigned_38 : decode cX11_hasSigned 38 = .ok (.lload_n 2, 1) := by decide +kernel
theorem dX11_hasSigned_39 : decode cX11_hasSigned 39 = .ok (.lcmp, 1) := by decide +kernel
theorem dX11_hasSigned_40 : decode cX11_hasSigned 40 = .ok (.ifCond .ne 7, 3) := by decide +kernel
theorem dX11_hasSigned_43 : decode cX11_hasSigned 43 = .ok (.iconst 1, 1) := by decide +kernel
theorem dX11_hasSigned_44 : decode cX11_hasSigned 44 = .ok (.goto 4, 3) := by decide +kernel
theorem dX11_hasSigned_47 : decode cX11_hasSigned 47 = .ok (.iconst 0, 1) := by decide +kernel
theorem dX11_hasSigned_48 : decode cX11_hasSigned 48 = .ok (.istore 4, 2) := by decide +kernel
theorem dX11_hasSigned_50 : decode cX11_hasSigned 50 = .ok (.iinc 5 1, 3) := by decide +kernel
theorem dX11_hasSigned_53 : decode cX11_hasSigned 53 = .ok (.goto (-47), 3) := by decide +kernel
theorem dX11_hasSigned_56 : decode cX11_hasSigned 56 = .ok (.iload 4, 2) := by decide +kernel
theorem dX11_hasSigned_58 : decode cX11_hasSigned 58 = .ok (.ireturn, 1) := by decide +kernel
theorem dX11_has_0 : decode cX11_has 0 = .ok (.aload_n 0, 1) := by decide +kernel
theorem dX11_has_1 : decode cX11_has 1 = .ok (.invokevirtual 262, 3) := by decide +kernel
theorem dX11_has_4 : decode cX11_has 4 = .ok (.lstore_n 3, 1) := by decide +kernel
theorem dX11_has_5 : decode cX11_has 5 = .ok (.iconst 0, 1) := by decide +kernel
theorem dX11_has_6 : decode cX11_has 6 = .ok (.istore 5, 2) := by decide +kernel
theorem dX11_has_8 : decode cX11_has 8 = .ok (.iconst 0, 1) := by decide +kernel
theorem dX11_has_9 : decode cX11_has 9 = .ok (.istore 6, 2) := by decide +kernel
theorem dX11_has_11 : decode cX11_has 11 = .ok (.iload 6, 2) := by decide +kernel
theorem dX11_has_13 : decode cX11_has 13 = .ok (.bipush 16, 2) := by decide +kernel
theorem dX11_has_15 : decode cX11_has 15 = .ok (.if_icmp .ge 64, 3) := by decide +kernel
theorem dX11_has_18 : decode cX11_has 18 = .ok (.iload_n 1, 1) := by decide +kernel
theorem dX11_has_19 : decode cX11_has 19 = .ok (.iload 6, 2) := by decide +kernel
theorem dX11_has_21 : decode cX11_has 21 = .ok (.ishr, 1) := by decide +kernel
theorem dX11_has_22 : decode cX11_has 22 = .ok (.iconst 1, 1) := by decide +kernel
theorem dX11_has_23 : decode cX11_has 23 = .ok (.iand, 1) := by decide +kernel
theorem dX11_has_24 : decode cX11_has 24 = .ok (.iconst 1, 1) := by decide +kernel
theorem dX11_has_25 : decode cX11_has 25 = .ok (.if_icmp .ne 20, 3) := by decide +kernel
theorem dX11_has_28 : decode cX11_has 28 = .ok (.aload_n 0, 1) := by decide +kernel
theorem dX11_has_29 : decode cX11_has 29 = .ok (.getfield 232, 3) := by decide +kernel
theorem dX11_has_32 : decode cX11_has 32 = .ok (.iload 6, 2) := by decide +kernel
theorem dX11_has_34 : decode cX11_has 34 = .ok (.ishr, 1) := by decide +kernel
theorem dX11_has_35 : decode cX11_has 35 = .ok (.iconst 1, 1) := by decide +kernel
theorem dX11_has_36 : decode cX11_has 36 = .ok (.iand, 1) := by decide +kernel
theorem dX11_has_37 : decode cX11_has 37 = .ok (.iconst 1, 1) := by decide +kernel
theorem dX11_has_38 : decode cX11_has 38 = .ok (.if_icmp .ne 7, 3) := by decide +kernel
theorem dX11_has_41 : decode cX11_has 41 = .ok (.iconst 1, 1) := by decide +kernel
theorem dX11_has_42 : decode cX11_has 42 = .ok (.goto 4, 3) := by decide +kernel
theorem dX11_has_45 : decode cX11_has 45 = .ok (.iconst 0, 1) := by decide +kernel
theorem dX11_has_46 : decode cX11_has 46 = .ok (.istore 7, 2) := by decide +kernel
theorem dX11_has_48 : decode cX11_has 48 = .ok (.iload 5, 2) := by decide +kernel
theorem dX11_has_50 : decode cX11_has 50 = .ok (.iload 7, 2) := by decide +kernel
theorem dX11_has_52 : decode cX11_has 52 = .ok (.ifCond .eq 17, 3) := by decide +kernel
theorem dX11_has_55 : decode cX11_has 55 = .ok (.aload_n 0, 1) := by decide +kernel
theorem dX11_has_56 : decode cX11_has 56 = .ok (.iload 6, 2) := by decide +kernel
theorem dX11_has_58 : decode cX11_has 58 = .ok (.lload_n 3, 1) := by decide +kernel
theorem dX11_has_59 : decode cX11_has 59 = .ok (.invokevirtual 266, 3) := by decide +kernel
theorem dX11_has_62 : decode cX11_has 62 = .ok (.ifCond .eq 7, 3) := by decide +kernel
theorem dX11_has_65 : decode cX11_has 65 = .ok (.iconst 1, 1) := by decide +kernel
theorem dX11_has_66 : decode cX11_has 66 = .ok (.goto 4, 3) := by decide +kernel
theorem dX11_has_69 : decode cX11_has 69 = .ok (.iconst 0, 1) := by decide +kernel
theorem dX11_has_70 : decode cX11_has 70 = .ok (.iadd, 1) := by decide +kernel
theorem dX11_has_71 : decode cX11_has 71 = .ok (.istore 5, 2) := by decide +kernel
theorem dX11_has_73 : decode cX11_has 73 = .ok (.iinc 6 1, 3) := by decide +kernel
theorem dX11_has_76 : decode cX11_has 76 = .ok (.goto (-65), 3) := by decide +kernel
theorem dX11_has_79 : decode cX11_has 79 = .ok (.iload 5, 2) := by decide +kernel
theorem dX11_has_81 : decode cX11_has 81 = .ok (.iload_n 2, 1) := by decide +kernel
theorem dX11_has_82 : decode cX11_has 82 = .ok (.if_icmp .lt 7, 3) := by decide +kernel
theorem dX11_has_85 : decode cX11_has 85 = .ok (.iconst 1, 1) := by decide +kernel
theorem dX11_has_86 : decode cX11_has 86 = .ok (.goto 4, 3) := by decide +kernel
theorem dX11_has_89 : decode cX11_has 89 = .ok (.iconst 0, 1) := by decide +kernel
theorem dX11_has_90 : decode cX11_has 90 = .ok (.ireturn, 1) := by decide +kernel
theorem dX11_isRecord_0 : decode cX11_isRecord 0 = .ok (.iload_n 3, 1) := by decide +kernel
theorem dX11_isRecord_1 : decode cX11_isRecord 1 = .ok (.ifCond .ne 13, 3) := by decide +kernel
theorem dX11_isRecord_4 : decode cX11_isRecord 4 = .ok (.iload_n 1, 1) := by decide +kernel
theorem dX11_isRecord_5 : decode cX11_isRecord 5 = .ok (.ifCond .eq 7, 3) := by decide +kernel
theorem dX11_isRecord_8 : decode cX11_isRecord 8 = .ok (.iconst 1, 1) := by decide +kernel
theorem dX11_isRecord_9 : decode cX11_isRecord 9 = .ok (.goto 4, 3) := by decide +kernel
theorem dX11_isRecord_12 : decode cX11_isRecord 12 = .ok (.iconst 0, 1) := by decide +kernel
theorem dX11_isRecord_13 : decode cX11_isRecord 13 = .ok (.ireturn, 1) := by decide +kernel
theorem dX11_isRecord_14 : decode cX11_isRecord 14 = .ok (.aload_n 0, 1) := by decide +kernel
theorem dX11_isRecord_15 : decode cX11_isRecord 15 = .ok (.iload_n 3, 1) := by decide +kernel
theorem dX11_isRecord_16 : decode cX11_isRecord 16 = .ok (.putfield 217, 3) := by decide +kernel
theorem dX11_isRecord_19 : decode cX11_isRecord 19 = .ok (.iconst 0, 1) := by decide +kernel
theorem dX11_isRecord_20 : decode cX11_isRecord 20 = .ok (.istore 4, 2) := by decide +kernel
theorem dX11_isRecord_22 : decode cX11_isRecord 22 = .ok (.iload 4, 2) := by decide +kernel
theorem dX11_isRecord_24 : decode cX11_isRecord 24 = .ok (.iload_n 3, 1) := by decide +kernel
theorem dX11_isRecord_25 : decode cX11_isRecord 25 = .ok (.if_icmp .ge 25, 3) := by decide +kernel
theorem dX11_isRecord_28 : decode cX11_isRecord 28 = .ok (.aload_n 0, 1) := by decide +kernel
theorem dX11_isRecord_29 : decode cX11_isRecord 29 = .ok (.getfield 23, 3) := by decide +kernel
theorem dX11_isRecord_32 : decode cX11_isRecord 32 = .ok (.iload 4, 2) := by decide +kernel
theorem dX11_isRecord_34 : decode cX11_isRecord 34 = .ok (.aload_n 0, 1) := by decide +kernel
theorem dX11_isRecord_35 : decode cX11_isRecord 35 = .ok (.getfield 7, 3) := by decide +kernel
theorem dX11_isRecord_38 : decode cX11_isRecord 38 = .ok (.iload_n 2, 1) := by decide +kernel
theorem dX11_isRecord_39 : decode cX11_isRecord 39 = .ok (.iload 4, 2) := by decide +kernel
theorem dX11_isRecord_41 : decode cX11_isRecord 41 = .ok (.iadd, 1) := by decide +kernel
theorem dX11_isRecord_42 : decode cX11_isRecord 42 = .ok (.iaload, 1) := by decide +kernel
theorem dX11_isRecord_43 : decode cX11_isRecord 43 = .ok (.iastore, 1) := by decide +kernel
theorem dX11_isRecord_44 : decode cX11_isRecord 44 = .ok (.iinc 4 1, 3) := by decide +kernel
theorem dX11_isRecord_47 : decode cX11_isRecord 47 = .ok (.goto (-25), 3) := by decide +kernel
theorem dX11_isRecord_50 : decode cX11_isRecord 50 = .ok (.aload_n 0, 1) := by decide +kernel
theorem dX11_isRecord_51 : decode cX11_isRecord 51 = .ok (.invokevirtual 270, 3) := by decide +kernel
theorem dX11_isRecord_54 : decode cX11_isRecord 54 = .ok (.ifCond .eq 15, 3) := by decide +kernel
theorem dX11_isRecord_57 : decode cX11_isRecord 57 = .ok (.aload_n 0, 1) := by decide +kernel
theorem dX11_isRecord_58 : decode cX11_isRecord 58 = .ok (.getfield 220, 3) := by decide +kernel
theorem dX11_isRecord_61 : decode cX11_isRecord 61 = .ok (.iload_n 1, 1) := by decide +kernel
theorem dX11_isRecord_62 : decode cX11_isRecord 62 = .ok (.if_icmp .ne 7, 3) := by decide +kernel
theorem dX11_isRecord_65 : decode cX11_isRecord 65 = .ok (.iconst 1, 1) := by decide +kernel
theorem dX11_isRecord_66 : decode cX11_isRecord 66 = .ok (.goto 4, 3) := by decide +kernel
theorem dX11_isRecord_69 : decode cX11_isRecord 69 = .ok (.iconst 0, 1) := by decide +kernel
theorem dX11_isRecord_70 : decode cX11_isRecord 70 = .ok (.ireturn, 1) := by decide +kernel
theorem dX11_findRecord_0 : decode cX11_findRecord 0 = .ok (.aload_n 0, 1) := by decide +kernel
theorem dX11_findRecord_1 : decode cX11_findRecord 1 = .ok (.bipush (-2), 2) := by decide +kernel
theorem dX11_findRecord_3 : decode cX11_findRecord 3 = .ok (.putfield 273, 3) := by decide +kernel
theorem dX11_findRecord_6 : decode cX11_findRecord 6 = .ok (.aload_n 0, 1) := by decide +kernel
theorem dX11_findRecord_7 : decode cX11_findRecord 7 = .ok (.iconst 0, 1) := by decide +kernel
theorem dX11_findRecord_8 : decode cX11_findRecord 8 = .ok (.putfield 276, 3) := by decide +kernel
theorem dX11_findRecord_11 : decode cX11_findRecord 11 = .ok (.aload_n 0, 1) := by decide +kernel
theorem dX11_findRecord_12 : decode cX11_findRecord 12 = .ok (.iconst 0, 1) := by decide +kernel
theorem dX11_findRecord_13 : decode cX11_findRecord 13 = .ok (.putfield 279, 3) := by decide +kernel
theorem dX11_findRecord_16 : decode cX11_findRecord 16 = .ok (.iconst 2, 1) := by decide +kernel
theorem dX11_findRecord_17 : decode cX11_findRecord 17 = .ok (.iload_n 1, 1) := by decide +kernel
theorem dX11_findRecord_18 : decode cX11_findRecord 18 = .ok (.imul, 1) := by decide +kernel
theorem dX11_findRecord_19 : decode cX11_findRecord 19 = .ok (.istore_n 2, 1) := by decide +kernel
theorem dX11_findRecord_20 : decode cX11_findRecord 20 = .ok (.iload_n 2, 1) := by decide +kernel
theorem dX11_findRecord_21 : decode cX11_findRecord 21 = .ok (.iconst 2, 1) := by decide +kernel
theorem dX11_findRecord_22 : decode cX11_findRecord 22 = .ok (.iload_n 1, 1) := by decide +kernel
theorem dX11_findRecord_23 : decode cX11_findRecord 23 = .ok (.imul, 1) := by decide +kernel
theorem dX11_findRecord_24 : decode cX11_findRecord 24 = .ok (.iconst 2, 1) := by decide +kernel
theorem dX11_findRecord_25 : decode cX11_findRecord 25 = .ok (.iadd, 1) := by decide +kernel
theorem dX11_findRecord_26 : decode cX11_findRecord 26 = .ok (.if_icmp .ge 136, 3) := by decide +kernel
theorem dX11_findRecord_29 : decode cX11_findRecord 29 = .ok (.sipush 128, 3) := by decide +kernel
theorem dX11_findRecord_32 : decode cX11_findRecord 32 = .ok (.iload_n 2, 1) := by decide +kernel
theorem dX11_findRecord_33 : decode cX11_findRecord 33 = .ok (.imul, 1) := by decide +kernel
theorem dX11_findRecord_34 : decode cX11_findRecord 34 = .ok (.istore_n 3, 1) := by decide +kernel
theorem dX11_findRecord_35 : decode cX11_findRecord 35 = .ok (.aload_n 0, 1) := by decide +kernel
theorem dX11_findRecord_36 : decode cX11_findRecord 36 = .ok (.iload_n 3, 1) := by decide +kernel
theorem dX11_findRecord_37 : decode cX11_findRecord 37 = .ok (.iconst 4, 1) := by decide +kernel
theorem dX11_findRecord_38 : decode cX11_findRecord 38 = .ok (.iadd, 1) := by decide +kernel
theorem dX11_findRecord_39 : decode cX11_findRecord 39 = .ok (.iconst 2, 1) := by decide +kernel
theorem dX11_findRecord_40 : decode cX11_findRecord 40 = .ok (.invokevirtual 154, 3) := by decide +kernel
theorem dX11_findRecord_43 : decode cX11_findRecord 43 = .ok (.istore 4, 2) := by decide +kernel
theorem dX11_findRecord_45 : decode cX11_findRecord 45 = .ok (.iload 4, 2) := by decide +kernel
theorem dX11_findRecord_47 : decode cX11_findRecord 47 = .ok (.bipush 118, 2) := by decide +kernel
theorem dX11_findRecord_49 : decode cX11_findRecord 49 = .ok (.if_icmp .gt 56, 3) := by decide +kernel
theorem dX11_findRecord_52 : decode cX11_findRecord 52 = .ok (.aload_n 0, 1) := by decide +kernel
theorem dX11_findRecord_53 : decode cX11_findRecord 53 = .ok (.iload_n 3, 1) := by decide +kernel
theorem dX11_findRecord_54 : decode cX11_findRecord 54 = .ok (.iconst 4, 1) := by decide +kernel
theorem dX11_findRecord_55 : decode cX11_findRecord 55 = .ok (.invokevirtual 154, 3) := by decide +kernel
theorem dX11_findRecord_58 : decode cX11_findRecord 58 = .ok (.iconst 1, 1) := by decide +kernel
theorem dX11_findRecord_59 : decode cX11_findRecord 59 = .ok (.if_icmp .lt 46, 3) := by decide +kernel
theorem dX11_findRecord_62 : decode cX11_findRecord 62 = .ok (.aload_n 0, 1) := by decide +kernel
theorem dX11_findRecord_63 : decode cX11_findRecord 63 = .ok (.iload_n 3, 1) := by decide +kernel
theorem dX11_findRecord_64 : decode cX11_findRecord 64 = .ok (.bipush 6, 2) := by decide +kernel
theorem dX11_findRecord_66 : decode cX11_findRecord 66 = .ok (.iload 4, 2) := by decide +kernel
theorem dX11_findRecord_68 : decode cX11_findRecord 68 = .ok (.iadd, 1) := by decide +kernel
theorem dX11_findRecord_69 : decode cX11_findRecord 69 = .ok (.invokevirtual 158, 3) := by decide +kernel
theorem dX11_findRecord_72 : decode cX11_findRecord 72 = .ok (.aload_n 0, 1) := by decide +kernel
theorem dX11_findRecord_73 : decode cX11_findRecord 73 = .ok (.iload_n 3, 1) := by decide +kernel
theorem dX11_findRecord_74 : decode cX11_findRecord 74 = .ok (.bipush 6, 2) := by decide +kernel
theorem dX11_findRecord_76 : decode cX11_findRecord 76 = .ok (.iadd, 1) := by decide +kernel
theorem dX11_findRecord_77 : decode cX11_findRecord 77 = .ok (.iload 4, 2) := by decide +kernel
theorem dX11_findRecord_79 : decode cX11_findRecord 79 = .ok (.iadd, 1) := by decide +kernel
theorem dX11_findRecord_80 : decode cX11_findRecord 80 = .ok (.iconst 4, 1) := by decide +kernel
theorem dX11_findRecord_81 : decode cX11_findRecord 81 = .ok (.invokevirtual 154, 3) := by decide +kernel
theorem dX11_findRecord_84 : decode cX11_findRecord 84 = .ok (.if_icmp .ne 21, 3) := by decide +kernel
theorem dX11_findRecord_87 : decode cX11_findRecord 87 = .ok (.aload_n 0, 1) := by decide +kernel
theorem dX11_findRecord_88 : decode cX11_findRecord 88 = .ok (.iload_n 1, 1) := by decide +kernel
theorem dX11_findRecord_89 : decode cX11_findRecord 89 = .ok (.iload_n 3, 1) := by decide +kernel
theorem dX11_findRecord_90 : decode cX11_findRecord 90 = .ok (.bipush 6, 2) := by decide +kernel
theorem dX11_findRecord_92 : decode cX11_findRecord 92 = .ok (.iadd, 1) := by decide +kernel
theorem dX11_findRecord_93 : decode cX11_findRecord 93 = .ok (.iload 4, 2) := by decide +kernel
theorem dX11_findRecord_95 : decode cX11_findRecord 95 = .ok (.invokevirtual 282, 3) := by decide +kernel
theorem dX11_findRecord_98 : decode cX11_findRecord 98 = .ok (.ifCond .eq 7, 3) := by decide +kernel
theorem dX11_findRecord_101 : decode cX11_findRecord 101 = .ok (.iconst 1, 1) := by decide +kernel
theorem dX11_findRecord_102 : decode cX11_findRecord 102 = .ok (.goto 4, 3) := by decide +kernel
theorem dX11_findRecord_105 : decode cX11_findRecord 105 = .ok (.iconst 0, 1) := by decide +kernel
theorem dX11_findRecord_106 : decode cX11_findRecord 106 = .ok (.istore 5, 2) := by decide +kernel
theorem dX11_findRecord_108 : decode cX11_findRecord 108 = .ok (.iload 5, 2) := by decide +kernel
theorem dX11_findRecord_110 : decode cX11_findRecord 110 = .ok (.ifCond .eq 46, 3) := by decide +kernel
theorem dX11_findRecord_113 : decode cX11_findRecord 113 = .ok (.aload_n 0, 1) := by decide +kernel
theorem dX11_findRecord_114 : decode cX11_findRecord 114 = .ok (.getfield 273, 3) := by decide +kernel
theorem dX11_findRecord_117 : decode cX11_findRecord 117 = .ok (.bipush (-2), 2) := by decide +kernel
theorem dX11_findRecord_119 : decode cX11_findRecord 119 = .ok (.if_icmp .eq 16, 3) := by decide +kernel
theorem dX11_findRecord_122 : decode cX11_findRecord 122 = .ok (.aload_n 0, 1) := by decide +kernel
theorem dX11_findRecord_123 : decode cX11_findRecord 123 = .ok (.iload_n 3, 1) := by decide +kernel
theorem dX11_findRecord_124 : decode cX11_findRecord 124 = .ok (.iconst 4, 1) := by decide +kernel
theorem dX11_findRecord_125 : decode cX11_findRecord 125 = .ok (.invokevirtual 154, 3) := by decide +kernel
theorem dX11_findRecord_128 : decode cX11_findRecord 128 = .ok (.aload_n 0, 1) := by decide +kernel
theorem dX11_findRecord_129 : decode cX11_findRecord 129 = .ok (.getfield 276, 3) := by decide +kernel
theorem dX11_findRecord_132 : decode cX11_findRecord 132 = .ok (.if_icmp .le 24, 3) := by decide +kernel
theorem dX11_findRecord_135 : decode cX11_findRecord 135 = .ok (.aload_n 0, 1) := by decide +kernel
theorem dX11_findRecord_136 : decode cX11_findRecord 136 = .ok (.iload_n 2, 1) := by decide +kernel
theorem dX11_findRecord_137 : decode cX11_findRecord 137 = .ok (.putfield 273, 3) := by decide +kernel
theorem dX11_findRecord_140 : decode cX11_findRecord 140 = .ok (.aload_n 0, 1) := by decide +kernel
theorem dX11_findRecord_141 : decode cX11_findRecord 141 = .ok (.aload_n 0, 1) := by decide +kernel
theorem dX11_findRecord_142 : decode cX11_findRecord 142 = .ok (.iload_n 3, 1) := by decide +kernel
theorem dX11_findRecord_143 : decode cX11_findRecord 143 = .ok (.iconst 4, 1) := by decide +kernel
theorem dX11_findRecord_144 : decode cX11_findRecord 144 = .ok (.invokevirtual 154, 3) := by decide +kernel
theorem dX11_findRecord_147 : decode cX11_findRecord 147 = .ok (.putfield 276, 3) := by decide +kernel
theorem dX11_findRecord_150 : decode cX11_findRecord 150 = .ok (.aload_n 0, 1) := by decide +kernel
theorem dX11_findRecord_151 : decode cX11_findRecord 151 = .ok (.iload 4, 2) := by decide +kernel
theorem dX11_findRecord_153 : decode cX11_findRecord 153 = .ok (.putfield 279, 3) := by decide +kernel
theorem dX11_findRecord_156 : decode cX11_findRecord 156 = .ok (.iinc 2 1, 3) := by decide +kernel
theorem dX11_findRecord_159 : decode cX11_findRecord 159 = .ok (.goto (-139), 3) := by decide +kernel
theorem dX11_findRecord_162 : decode cX11_findRecord 162 = .ok (.return_, 1) := by decide +kernel
theorem dX11_takeTrusted_0 : decode cX11_takeTrusted 0 = .ok (.aload_n 0, 1) := by decide +kernel
theorem dX11_takeTrusted_1 : decode cX11_takeTrusted 1 = .ok (.iload_n 1, 1) := by decide +kernel
theorem dX11_takeTrusted_2 : decode cX11_takeTrusted 2 = .ok (.invokevirtual 286, 3) := by decide +kernel
theorem dX11_takeTrusted_5 : decode cX11_takeTrusted 5 = .ok (.aload_n 0, 1) := by decide +kernel
theorem dX11_takeTrusted_6 : decode cX11_takeTrusted 6 = .ok (.aload_n 0, 1) := by decide +kernel
theorem dX11_takeTrusted_7 : decode cX11_takeTrusted 7 = .ok (.getfield 279, 3) := by decide +kernel
theorem dX11_takeTrusted_10 : decode cX11_takeTrusted 10 = .ok (.putfield 217, 3) := by decide +kernel
theorem dX11_takeTrusted_13 : decode cX11_takeTrusted 13 = .ok (.iconst 0, 1) := by decide +kernel
theorem dX11_takeTrusted_14 : decode cX11_takeTrusted 14 = .ok (.istore_n 2, 1) := by decide +kernel
theorem dX11_takeTrusted_15 : decode cX11_takeTrusted 15 = .ok (.iload_n 2, 1) := by decide +kernel
theorem dX11_takeTrusted_16 : decode cX11_takeTrusted 16 = .ok (.aload_n 0, 1) := by decide +kernel
theorem dX11_takeTrusted_17 : decode cX11_takeTrusted 17 = .ok (.getfield 279, 3) := by decide +kernel
theorem dX11_takeTrusted_20 : decode cX11_takeTrusted 20 = .ok (.if_icmp .ge 33, 3) := by decide +kernel
theorem dX11_takeTrusted_23 : decode cX11_takeTrusted 23 = .ok (.aload_n 0, 1) := by decide +kernel
theorem dX11_takeTrusted_24 : decode cX11_takeTrusted 24 = .ok (.getfield 23, 3) := by decide +kernel
theorem dX11_takeTrusted_27 : decode cX11_takeTrusted 27 = .ok (.iload_n 2, 1) := by decide +kernel
theorem dX11_takeTrusted_28 : decode cX11_takeTrusted 28 = .ok (.aload_n 0, 1) := by decide +kernel
theorem dX11_takeTrusted_29 : decode cX11_takeTrusted 29 = .ok (.getfield 7, 3) := by decide +kernel
theorem dX11_takeTrusted_32 : decode cX11_takeTrusted 32 = .ok (.sipush 128, 3) := by decide +kernel
theorem dX11_takeTrusted_35 : decode cX11_takeTrusted 35 = .ok (.aload_n 0, 1) := by decide +kernel
theorem dX11_takeTrusted_36 : decode cX11_takeTrusted 36 = .ok (.getfield 273, 3) := by decide +kernel
theorem dX11_takeTrusted_39 : decode cX11_takeTrusted 39 = .ok (.imul, 1) := by decide +kernel
theorem dX11_takeTrusted_40 : decode cX11_takeTrusted 40 = .ok (.bipush 6, 2) := by decide +kernel
theorem dX11_takeTrusted_42 : decode cX11_takeTrusted 42 = .ok (.iadd, 1) := by decide +kernel
theorem dX11_takeTrusted_43 : decode cX11_takeTrusted 43 = .ok (.iload_n 2, 1) := by decide +kernel
theorem dX11_takeTrusted_44 : decode cX11_takeTrusted 44 = .ok (.iadd, 1) := by decide +kernel
theorem dX11_takeTrusted_45 : decode cX11_takeTrusted 45 = .ok (.iaload, 1) := by decide +kernel
theorem dX11_takeTrusted_46 : decode cX11_takeTrusted 46 = .ok (.iastore, 1) := by decide +kernel
theorem dX11_takeTrusted_47 : decode cX11_takeTrusted 47 = .ok (.iinc 2 1, 3) := by decide +kernel
theorem dX11_takeTrusted_50 : decode cX11_takeTrusted 50 = .ok (.goto (-35), 3) := by decide +kernel
theorem dX11_takeTrusted_53 : decode cX11_takeTrusted 53 = .ok (.aload_n 0, 1) := by decide +kernel
theorem dX11_takeTrusted_54 : decode cX11_takeTrusted 54 = .ok (.getfield 279, 3) := by decide +kernel
theorem dX11_takeTrusted_57 : decode cX11_takeTrusted 57 = .ok (.ifCond .le 8, 3) := by decide +kernel
theorem dX11_takeTrusted_60 : decode cX11_takeTrusted 60 = .ok (.aload_n 0, 1) := by decide +kernel
theorem dX11_takeTrusted_61 : decode cX11_takeTrusted 61 = .ok (.invokevirtual 270, 3) := by decide +kernel
theorem dX11_takeTrusted_64 : decode cX11_takeTrusted 64 = .ok (.ireturn, 1) := by decide +kernel
theorem dX11_takeTrusted_65 : decode cX11_takeTrusted 65 = .ok (.iload_n 1, 1) := by decide +kernel
theorem dX11_takeTrusted_66 : decode cX11_takeTrusted 66 = .ok (.ifCond .ne 12, 3) := by decide +kernel
theorem dX11_takeTrusted_69 : decode cX11_takeTrusted 69 = .ok (.aload_n 0, 1) := by decide +kernel
theorem dX11_takeTrusted_70 : decode cX11_takeTrusted 70 = .ok (.getfield 273, 3) := by decide +kernel
theorem dX11_takeTrusted_73 : decode cX11_takeTrusted 73 = .ok (.bipush (-2), 2) := by decide +kernel
theorem dX11_takeTrusted_75 : decode cX11_takeTrusted 75 = .ok (.if_icmp .eq 5, 3) := by decide +kernel
theorem dX11_takeTrusted_78 : decode cX11_takeTrusted 78 = .ok (.iconst 0, 1) := by decide +kernel
theorem dX11_takeTrusted_79 : decode cX11_takeTrusted 79 = .ok (.ireturn, 1) := by decide +kernel
theorem dX11_takeTrusted_80 : decode cX11_takeTrusted 80 = .ok (.aload_n 0, 1) := by decide +kernel
theorem dX11_takeTrusted_81 : decode cX11_takeTrusted 81 = .ok (.iconst 0, 1) := by decide +kernel
theorem dX11_takeTrusted_82 : decode cX11_takeTrusted 82 = .ok (.putfield 220, 3) := by decide +kernel
theorem dX11_takeTrusted_85 : decode cX11_takeTrusted 85 = .ok (.aload_n 0, 1) := by decide +kernel
theorem dX11_takeTrusted_86 : decode cX11_takeTrusted 86 = .ok (.iconst 1, 1) := by decide +kernel
theorem dX11_takeTrusted_87 : decode cX11_takeTrusted 87 = .ok (.putfield 235, 3) := by decide +kernel
theorem dX11_takeTrusted_90 : decode cX11_takeTrusted 90 = .ok (.aload_n 0, 1) := by decide +kernel
theorem dX11_takeTrusted_91 : decode cX11_takeTrusted 91 = .ok (.ldc2_w 289, 3) := by decide +kernel
theorem dX11_takeTrusted_94 : decode cX11_takeTrusted 94 = .ok (.putfield 238, 3) := by decide +kernel
theorem dX11_takeTrusted_97 : decode cX11_takeTrusted 97 = .ok (.aload_n 0, 1) := by decide +kernel
theorem dX11_takeTrusted_98 : decode cX11_takeTrusted 98 = .ok (.iconst 0, 1) := by decide +kernel
theorem dX11_takeTrusted_99 : decode cX11_takeTrusted 99 = .ok (.putfield 232, 3) := by decide +kernel
theorem dX11_takeTrusted_102 : decode cX11_takeTrusted 102 = .ok (.iconst 0, 1) := by decide +kernel
theorem dX11_takeTrusted_103 : decode cX11_takeTrusted 103 = .ok (.istore_n 2, 1) := by decide +kernel
theorem dX11_takeTrusted_104 : decode cX11_takeTrusted 104 = .ok (.iload_n 2, 1) := by decide +kernel
theorem dX11_takeTrusted_105 : decode cX11_takeTrusted 105 = .ok (.iconst 4, 1) := by decide +kernel
theorem dX11_takeTrusted_106 : decode cX11_takeTrusted 106 = .ok (.if_icmp .ge 67, 3) := by decide +kernel
theorem dX11_takeTrusted_109 : decode cX11_takeTrusted 109 = .ok (.aload_n 0, 1) := by decide +kernel
theorem dX11_takeTrusted_110 : decode cX11_takeTrusted 110 = .ok (.getfield 26, 3) := by decide +kernel
theorem dX11_takeTrusted_113 : decode cX11_takeTrusted 113 = .ok (.iload_n 2, 1) := by decide +kernel
theorem dX11_takeTrusted_114 : decode cX11_takeTrusted 114 = .ok (.iload_n 2, 1) := by decide +kernel
theorem dX11_takeTrusted_115 : decode cX11_takeTrusted 115 = .ok (.ifCond .ne 8, 3) := by decide +kernel
theorem dX11_takeTrusted_118 : decode cX11_takeTrusted 118 = .ok (.bipush 7, 2) := by decide +kernel
theorem dX11_takeTrusted_120 : decode cX11_takeTrusted 120 = .ok (.goto 25, 3) := by decide +kernel
theorem dX11_takeTrusted_123 : decode cX11_takeTrusted 123 = .ok (.iload_n 2, 1) := by decide +kernel
theorem dX11_takeTrusted_124 : decode cX11_takeTrusted 124 = .ok (.iconst 1, 1) := by decide +kernel
theorem dX11_takeTrusted_125 : decode cX11_takeTrusted 125 = .ok (.if_icmp .ne 8, 3) := by decide +kernel
theorem dX11_takeTrusted_128 : decode cX11_takeTrusted 128 = .ok (.bipush 8, 2) := by decide +kernel
theorem dX11_takeTrusted_130 : decode cX11_takeTrusted 130 = .ok (.goto 15, 3) := by decide +kernel
theorem dX11_takeTrusted_133 : decode cX11_takeTrusted 133 = .ok (.iload_n 2, 1) := by decide +kernel
theorem dX11_takeTrusted_134 : decode cX11_takeTrusted 134 = .ok (.iconst 2, 1) := by decide +kernel
theorem dX11_takeTrusted_135 : decode cX11_takeTrusted 135 = .ok (.if_icmp .ne 8, 3) := by decide +kernel
theorem dX11_takeTrusted_138 : decode cX11_takeTrusted 138 = .ok (.bipush 16, 2) := by decide +kernel
theorem dX11_takeTrusted_140 : decode cX11_takeTrusted 140 = .ok (.goto 5, 3) := by decide +kernel
theorem dX11_takeTrusted_143 : decode cX11_takeTrusted 143 = .ok (.bipush 96, 2) := by decide +kernel
theorem dX11_takeTrusted_145 : decode cX11_takeTrusted 145 = .ok (.iastore, 1) := by decide +kernel
theorem dX11_takeTrusted_146 : decode cX11_takeTrusted 146 = .ok (.aload_n 0, 1) := by decide +kernel
theorem dX11_takeTrusted_147 : decode cX11_takeTrusted 147 = .ok (.getfield 29, 3) := by decide +kernel
theorem dX11_takeTrusted_150 : decode cX11_takeTrusted 150 = .ok (.iload_n 2, 1) := by decide +kernel
theorem dX11_takeTrusted_151 : decode cX11_takeTrusted 151 = .ok (.iload_n 2, 1) := by decide +kernel
theorem dX11_takeTrusted_152 : decode cX11_takeTrusted 152 = .ok (.iconst 1, 1) := by decide +kernel
theorem dX11_takeTrusted_153 : decode cX11_takeTrusted 153 = .ok (.if_icmp .eq 8, 3) := by decide +kernel
theorem dX11_takeTrusted_156 : decode cX11_takeTrusted 156 = .ok (.iload_n 2, 1) := by decide +kernel
theorem dX11_takeTrusted_157 : decode cX11_takeTrusted 157 = .ok (.iconst 2, 1) := by decide +kernel
theorem dX11_takeTrusted_158 : decode cX11_takeTrusted 158 = .ok (.if_icmp .ne 7, 3) := by decide +kernel
theorem dX11_takeTrusted_161 : decode cX11_takeTrusted 161 = .ok (.iconst 1, 1) := by decide +kernel
theorem dX11_takeTrusted_162 : decode cX11_takeTrusted 162 = .ok (.goto 4, 3) := by decide +kernel
theorem dX11_takeTrusted_165 : decode cX11_takeTrusted 165 = .ok (.iconst 2, 1) := by decide +kernel
theorem dX11_takeTrusted_166 : decode cX11_takeTrusted 166 = .ok (.iastore, 1) := by decide +kernel
theorem dX11_takeTrusted_167 : decode cX11_takeTrusted 167 = .ok (.iinc 2 1, 3) := by decide +kernel
theorem dX11_takeTrusted_170 : decode cX11_takeTrusted 170 = .ok (.goto (-66), 3) := by decide +kernel
theorem dX11_takeTrusted_173 : decode cX11_takeTrusted 173 = .ok (.iconst 1, 1) := by decide +kernel
theorem dX11_takeTrusted_174 : decode cX11_takeTrusted 174 = .ok (.ireturn, 1) := by decide +kernel
theorem dX11_keepRecord_0 : decode cX11_keepRecord 0 = .ok (.aload_n 0, 1) := by decide +kernel
theorem dX11_keepRecord_1 : decode cX11_keepRecord 1 = .ok (.iload_n 1, 1) := by decide +kernel
theorem dX11_keepRecord_2 : decode cX11_keepRecord 2 = .ok (.invokevirtual 286, 3) := by decide +kernel
theorem dX11_keepRecord_5 : decode cX11_keepRecord 5 = .ok (.aload_n 0, 1) := by decide +kernel
theorem dX11_keepRecord_6 : decode cX11_keepRecord 6 = .ok (.getfield 273, 3) := by decide +kernel
theorem dX11_keepRecord_9 : decode cX11_keepRecord 9 = .ok (.bipush (-2), 2) := by decide +kernel
theorem dX11_keepRecord_11 : decode cX11_keepRecord 11 = .ok (.if_icmp .ne 9, 3) := by decide +kernel
theorem dX11_keepRecord_14 : decode cX11_keepRecord 14 = .ok (.iconst 2, 1) := by decide +kernel
theorem dX11_keepRecord_15 : decode cX11_keepRecord 15 = .ok (.iload_n 1, 1) := by decide +kernel
theorem dX11_keepRecord_16 : decode cX11_keepRecord 16 = .ok (.imul, 1) := by decide +kernel
theorem dX11_keepRecord_17 : decode cX11_keepRecord 17 = .ok (.goto 13, 3) := by decide +kernel
theorem dX11_keepRecord_20 : decode cX11_keepRecord 20 = .ok (.iconst 4, 1) := by decide +kernel
theorem dX11_keepRecord_21 : decode cX11_keepRecord 21 = .ok (.iload_n 1, 1) := by decide +kernel
theorem dX11_keepRecord_22 : decode cX11_keepRecord 22 = .ok (.imul, 1) := by decide +kernel
theorem dX11_keepRecord_23 : decode cX11_keepRecord 23 = .ok (.iconst 1, 1) := by decide +kernel
theorem dX11_keepRecord_24 : decode cX11_keepRecord 24 = .ok (.iadd, 1) := by decide +kernel
theorem dX11_keepRecord_25 : decode cX11_keepRecord 25 = .ok (.aload_n 0, 1) := by decide +kernel
theorem dX11_keepRecord_26 : decode cX11_keepRecord 26 = .ok (.getfield 273, 3) := by decide +kernel
theorem dX11_keepRecord_29 : decode cX11_keepRecord 29 = .ok (.isub, 1) := by decide +kernel
theorem dX11_keepRecord_30 : decode cX11_keepRecord 30 = .ok (.istore_n 3, 1) := by decide +kernel
theorem dX11_keepRecord_31 : decode cX11_keepRecord 31 = .ok (.aload_n 0, 1) := by decide +kernel
theorem dX11_keepRecord_32 : decode cX11_keepRecord 32 = .ok (.getfield 276, 3) := by decide +kernel
theorem dX11_keepRecord_35 : decode cX11_keepRecord 35 = .ok (.iconst 1, 1) := by decide +kernel
theorem dX11_keepRecord_36 : decode cX11_keepRecord 36 = .ok (.iadd, 1) := by decide +kernel
theorem dX11_keepRecord_37 : decode cX11_keepRecord 37 = .ok (.istore 4, 2) := by decide +kernel
theorem dX11_keepRecord_39 : decode cX11_keepRecord 39 = .ok (.iconst 0, 1) := by decide +kernel
theorem dX11_keepRecord_40 : decode cX11_keepRecord 40 = .ok (.istore 5, 2) := by decide +kernel
theorem dX11_keepRecord_42 : decode cX11_keepRecord 42 = .ok (.iload 5, 2) := by decide +kernel
theorem dX11_keepRecord_44 : decode cX11_keepRecord 44 = .ok (.iconst 4, 1) := by decide +kernel
theorem dX11_keepRecord_45 : decode cX11_keepRecord 45 = .ok (.if_icmp .ge 31, 3) := by decide +kernel
theorem dX11_keepRecord_48 : decode cX11_keepRecord 48 = .ok (.aload_n 0, 1) := by decide +kernel
theorem dX11_keepRecord_49 : decode cX11_keepRecord 49 = .ok (.getfield 48, 3) := by decide +kernel
theorem dX11_keepRecord_52 : decode cX11_keepRecord 52 = .ok (.iload 5, 2) := by decide +kernel
theorem dX11_keepRecord_54 : decode cX11_keepRecord 54 = .ok (.iload 4, 2) := by decide +kernel
theorem dX11_keepRecord_56 : decode cX11_keepRecord 56 = .ok (.bipush 24, 2) := by decide +kernel
theorem dX11_keepRecord_58 : decode cX11_keepRecord 58 = .ok (.bipush 8, 2) := by decide +kernel
theorem dX11_keepRecord_60 : decode cX11_keepRecord 60 = .ok (.iload 5, 2) := by decide +kernel
theorem dX11_keepRecord_62 : decode cX11_keepRecord 62 = .ok (.imul, 1) := by decide +kernel
theorem dX11_keepRecord_63 : decode cX11_keepRecord 63 = .ok (.isub, 1) := by decide +kernel
theorem dX11_keepRecord_64 : decode cX11_keepRecord 64 = .ok (.ishr, 1) := by decide +kernel
theorem dX11_keepRecord_65 : decode cX11_keepRecord 65 = .ok (.sipush 255, 3) := by decide +kernel
theorem dX11_keepRecord_68 : decode cX11_keepRecord 68 = .ok (.iand, 1) := by decide +kernel
theorem dX11_keepRecord_69 : decode cX11_keepRecord 69 = .ok (.iastore, 1) := by decide +kernel
theorem dX11_keepRecord_70 : decode cX11_keepRecord 70 = .ok (.iinc 5 1, 3) := by decide +kernel
theorem dX11_keepRecord_73 : decode cX11_keepRecord 73 = .ok (.goto (-31), 3) := by decide +kernel
theorem dX11_keepRecord_76 : decode cX11_keepRecord 76 = .ok (.aload_n 0, 1) := by decide +kernel
theorem dX11_keepRecord_77 : decode cX11_keepRecord 77 = .ok (.getfield 48, 3) := by decide +kernel
theorem dX11_keepRecord_80 : decode cX11_keepRecord 80 = .ok (.iconst 4, 1) := by decide +kernel
theorem dX11_keepRecord_81 : decode cX11_keepRecord 81 = .ok (.iload_n 2, 1) := by decide +kernel
theorem dX11_keepRecord_82 : decode cX11_keepRecord 82 = .ok (.bipush 8, 2) := by decide +kernel
theorem dX11_keepRecord_84 : decode cX11_keepRecord 84 = .ok (.ishr, 1) := by decide +kernel
theorem dX11_keepRecord_85 : decode cX11_keepRecord 85 = .ok (.iastore, 1) := by decide +kernel
theorem dX11_keepRecord_86 : decode cX11_keepRecord 86 = .ok (.aload_n 0, 1) := by decide +kernel
theorem dX11_keepRecord_87 : decode cX11_keepRecord 87 = .ok (.getfield 48, 3) := by decide +kernel
theorem dX11_keepRecord_90 : decode cX11_keepRecord 90 = .ok (.iconst 5, 1) := by decide +kernel
theorem dX11_keepRecord_91 : decode cX11_keepRecord 91 = .ok (.iload_n 2, 1) := by decide +kernel
theorem dX11_keepRecord_92 : decode cX11_keepRecord 92 = .ok (.sipush 255, 3) := by decide +kernel
theorem dX11_keepRecord_95 : decode cX11_keepRecord 95 = .ok (.iand, 1) := by decide +kernel
theorem dX11_keepRecord_96 : decode cX11_keepRecord 96 = .ok (.iastore, 1) := by decide +kernel
theorem dX11_keepRecord_97 : decode cX11_keepRecord 97 = .ok (.aload_n 0, 1) := by decide +kernel
theorem dX11_keepRecord_98 : decode cX11_keepRecord 98 = .ok (.invokevirtual 113, 3) := by decide +kernel
theorem dX11_keepRecord_101 : decode cX11_keepRecord 101 = .ok (.iconst 0, 1) := by decide +kernel
theorem dX11_keepRecord_102 : decode cX11_keepRecord 102 = .ok (.istore 5, 2) := by decide +kernel
theorem dX11_keepRecord_104 : decode cX11_keepRecord 104 = .ok (.iload 5, 2) := by decide +kernel
theorem dX11_keepRecord_106 : decode cX11_keepRecord 106 = .ok (.bipush 6, 2) := by decide +kernel
theorem dX11_keepRecord_108 : decode cX11_keepRecord 108 = .ok (.iload_n 2, 1) := by decide +kernel
theorem dX11_keepRecord_109 : decode cX11_keepRecord 109 = .ok (.iadd, 1) := by decide +kernel
theorem dX11_keepRecord_110 : decode cX11_keepRecord 110 = .ok (.if_icmp .ge 20, 3) := by decide +kernel
theorem dX11_keepRecord_113 : decode cX11_keepRecord 113 = .ok (.aload_n 0, 1) := by decide +kernel
theorem dX11_keepRecord_114 : decode cX11_keepRecord 114 = .ok (.aload_n 0, 1) := by decide +kernel
theorem dX11_keepRecord_115 : decode cX11_keepRecord 115 = .ok (.getfield 48, 3) := by decide +kernel
theorem dX11_keepRecord_118 : decode cX11_keepRecord 118 = .ok (.iload 5, 2) := by decide +kernel
theorem dX11_keepRecord_120 : decode cX11_keepRecord 120 = .ok (.iaload, 1) := by decide +kernel
theorem dX11_keepRecord_121 : decode cX11_keepRecord 121 = .ok (.invokevirtual 116, 3) := by decide +kernel
theorem dX11_keepRecord_124 : decode cX11_keepRecord 124 = .ok (.iinc 5 1, 3) := by decide +kernel
theorem dX11_keepRecord_127 : decode cX11_keepRecord 127 = .ok (.goto (-23), 3) := by decide +kernel
theorem dX11_keepRecord_130 : decode cX11_keepRecord 130 = .ok (.aload_n 0, 1) := by decide +kernel
theorem dX11_keepRecord_131 : decode cX11_keepRecord 131 = .ok (.invokevirtual 150, 3) := by decide +kernel
theorem dX11_keepRecord_134 : decode cX11_keepRecord 134 = .ok (.istore 5, 2) := by decide +kernel
theorem dX11_keepRecord_136 : decode cX11_keepRecord 136 = .ok (.iconst 0, 1) := by decide +kernel
theorem dX11_keepRecord_137 : decode cX11_keepRecord 137 = .ok (.istore 6, 2) := by decide +kernel
theorem dX11_keepRecord_139 : decode cX11_keepRecord 139 = .ok (.iload 6, 2) := by decide +kernel
theorem dX11_keepRecord_141 : decode cX11_keepRecord 141 = .ok (.iconst 4, 1) := by decide +kernel
theorem dX11_keepRecord_142 : decode cX11_keepRecord 142 = .ok (.if_icmp .ge 36, 3) := by decide +kernel
theorem dX11_keepRecord_145 : decode cX11_keepRecord 145 = .ok (.aload_n 0, 1) := by decide +kernel
theorem dX11_keepRecord_146 : decode cX11_keepRecord 146 = .ok (.getfield 48, 3) := by decide +kernel
theorem dX11_keepRecord_149 : decode cX11_keepRecord 149 = .ok (.bipush 6, 2) := by decide +kernel
theorem dX11_keepRecord_151 : decode cX11_keepRecord 151 = .ok (.iload_n 2, 1) := by decide +kernel
theorem dX11_keepRecord_152 : decode cX11_keepRecord 152 = .ok (.iadd, 1) := by decide +kernel
theorem dX11_keepRecord_153 : decode cX11_keepRecord 153 = .ok (.iload 6, 2) := by decide +kernel
theorem dX11_keepRecord_155 : decode cX11_keepRecord 155 = .ok (.iadd, 1) := by decide +kernel
theorem dX11_keepRecord_156 : decode cX11_keepRecord 156 = .ok (.iload 5, 2) := by decide +kernel
theorem dX11_keepRecord_158 : decode cX11_keepRecord 158 = .ok (.bipush 24, 2) := by decide +kernel
theorem dX11_keepRecord_160 : decode cX11_keepRecord 160 = .ok (.bipush 8, 2) := by decide +kernel
theorem dX11_keepRecord_162 : decode cX11_keepRecord 162 = .ok (.iload 6, 2) := by decide +kernel
theorem dX11_keepRecord_164 : decode cX11_keepRecord 164 = .ok (.imul, 1) := by decide +kernel
theorem dX11_keepRecord_165 : decode cX11_keepRecord 165 = .ok (.isub, 1) := by decide +kernel
theorem dX11_keepRecord_166 : decode cX11_keepRecord 166 = .ok (.ishr, 1) := by decide +kernel
theorem dX11_keepRecord_167 : decode cX11_keepRecord 167 = .ok (.sipush 255, 3) := by decide +kernel
theorem dX11_keepRecord_170 : decode cX11_keepRecord 170 = .ok (.iand, 1) := by decide +kernel
theorem dX11_keepRecord_171 : decode cX11_keepRecord 171 = .ok (.iastore, 1) := by decide +kernel
theorem dX11_keepRecord_172 : decode cX11_keepRecord 172 = .ok (.iinc 6 1, 3) := by decide +kernel
theorem dX11_keepRecord_175 : decode cX11_keepRecord 175 = .ok (.goto (-36), 3) := by decide +kernel
theorem dX11_keepRecord_178 : decode cX11_keepRecord 178 = .ok (.bipush 10, 2) := by decide +kernel
theorem dX11_keepRecord_180 : decode cX11_keepRecord 180 = .ok (.iload_n 2, 1) := by decide +kernel
theorem dX11_keepRecord_181 : decode cX11_keepRecord 181 = .ok (.iadd, 1) := by decide +kernel
theorem dX11_keepRecord_182 : decode cX11_keepRecord 182 = .ok (.istore 6, 2) := by decide +kernel
theorem dX11_keepRecord_184 : decode cX11_keepRecord 184 = .ok (.aload_n 0, 1) := by decide +kernel
theorem dX11_keepRecord_185 : decode cX11_keepRecord 185 = .ok (.iload_n 3, 1) := by decide +kernel
theorem dX11_keepRecord_186 : decode cX11_keepRecord 186 = .ok (.invokevirtual 206, 3) := by decide +kernel
theorem dX11_keepRecord_189 : decode cX11_keepRecord 189 = .ok (.iconst 0, 1) := by decide +kernel
theorem dX11_keepRecord_190 : decode cX11_keepRecord 190 = .ok (.istore 7, 2) := by decide +kernel
theorem dX11_keepRecord_192 : decode cX11_keepRecord 192 = .ok (.iload 7, 2) := by decide +kernel
theorem dX11_keepRecord_194 : decode cX11_keepRecord 194 = .ok (.iload 6, 2) := by decide +kernel
theorem dX11_keepRecord_196 : decode cX11_keepRecord 196 = .ok (.if_icmp .ge 70, 3) := by decide +kernel
theorem dX11_keepRecord_199 : decode cX11_keepRecord 199 = .ok (.iconst 0, 1) := by decide +kernel
theorem dX11_keepRecord_200 : decode cX11_keepRecord 200 = .ok (.istore 8, 2) := by decide +kernel
theorem dX11_keepRecord_202 : decode cX11_keepRecord 202 = .ok (.iload 8, 2) := by decide +kernel
theorem dX11_keepRecord_204 : decode cX11_keepRecord 204 = .ok (.bipush 32, 2) := by decide +kernel
theorem dX11_keepRecord_206 : decode cX11_keepRecord 206 = .ok (.if_icmp .ge 42, 3) := by decide +kernel
theorem dX11_keepRecord_209 : decode cX11_keepRecord 209 = .ok (.aload_n 0, 1) := by decide +kernel
theorem dX11_keepRecord_210 : decode cX11_keepRecord 210 = .ok (.getfield 20, 3) := by decide +kernel
theorem dX11_keepRecord_213 : decode cX11_keepRecord 213 = .ok (.iload 8, 2) := by decide +kernel
theorem dX11_keepRecord_215 : decode cX11_keepRecord 215 = .ok (.iload 7, 2) := by decide +kernel
theorem dX11_keepRecord_217 : decode cX11_keepRecord 217 = .ok (.iload 8, 2) := by decide +kernel
theorem dX11_keepRecord_219 : decode cX11_keepRecord 219 = .ok (.iadd, 1) := by decide +kernel
theorem dX11_keepRecord_220 : decode cX11_keepRecord 220 = .ok (.iload 6, 2) := by decide +kernel
theorem dX11_keepRecord_222 : decode cX11_keepRecord 222 = .ok (.if_icmp .ge 16, 3) := by decide +kernel
theorem dX11_keepRecord_225 : decode cX11_keepRecord 225 = .ok (.aload_n 0, 1) := by decide +kernel
theorem dX11_keepRecord_226 : decode cX11_keepRecord 226 = .ok (.getfield 48, 3) := by decide +kernel
theorem dX11_keepRecord_229 : decode cX11_keepRecord 229 = .ok (.iload 7, 2) := by decide +kernel
theorem dX11_keepRecord_231 : decode cX11_keepRecord 231 = .ok (.iload 8, 2) := by decide +kernel
theorem dX11_keepRecord_233 : decode cX11_keepRecord 233 = .ok (.iadd, 1) := by decide +kernel
theorem dX11_keepRecord_234 : decode cX11_keepRecord 234 = .ok (.iaload, 1) := by decide +kernel
theorem dX11_keepRecord_235 : decode cX11_keepRecord 235 = .ok (.goto 6, 3) := by decide +kernel
theorem dX11_keepRecord_238 : decode cX11_keepRecord 238 = .ok (.sipush 255, 3) := by decide +kernel
theorem dX11_keepRecord_241 : decode cX11_keepRecord 241 = .ok (.iastore, 1) := by decide +kernel
theorem dX11_keepRecord_242 : decode cX11_keepRecord 242 = .ok (.iinc 8 1, 3) := by decide +kernel
theorem dX11_keepRecord_245 : decode cX11_keepRecord 245 = .ok (.goto (-43), 3) := by decide +kernel
theorem dX11_keepRecord_248 : decode cX11_keepRecord 248 = .ok (.aload_n 0, 1) := by decide +kernel
theorem dX11_keepRecord_249 : decode cX11_keepRecord 249 = .ok (.sipush 128, 3) := by decide +kernel
theorem dX11_keepRecord_252 : decode cX11_keepRecord 252 = .ok (.iload_n 3, 1) := by decide +kernel
theorem dX11_keepRecord_253 : decode cX11_keepRecord 253 = .ok (.imul, 1) := by decide +kernel
theorem dX11_keepRecord_254 : decode cX11_keepRecord 254 = .ok (.iload 7, 2) := by decide +kernel
theorem dX11_keepRecord_256 : decode cX11_keepRecord 256 = .ok (.iadd, 1) := by decide +kernel
theorem dX11_keepRecord_257 : decode cX11_keepRecord 257 = .ok (.invokevirtual 209, 3) := by decide +kernel
theorem dX11_keepRecord_260 : decode cX11_keepRecord 260 = .ok (.iinc 7 32, 3) := by decide +kernel
theorem dX11_keepRecord_263 : decode cX11_keepRecord 263 = .ok (.goto (-71), 3) := by decide +kernel
theorem dX11_keepRecord_266 : decode cX11_keepRecord 266 = .ok (.return_, 1) := by decide +kernel
theorem dX11_keepDoc_0 : decode cX11_keepDoc 0 = .ok (.iconst 0, 1) := by decide +kernel
theorem dX11_keepDoc_1 : decode cX11_keepDoc 1 = .ok (.istore_n 1, 1) := by decide +kernel
theorem dX11_keepDoc_2 : decode cX11_keepDoc 2 = .ok (.iload_n 1, 1) := by decide +kernel
theorem dX11_keepDoc_3 : decode cX11_keepDoc 3 = .ok (.aload_n 0, 1) := by decide +kernel
theorem dX11_keepDoc_4 : decode cX11_keepDoc 4 = .ok (.getfield 217, 3) := by decide +kernel
theorem dX11_keepDoc_7 : decode cX11_keepDoc 7 = .ok (.if_icmp .ge 24, 3) := by decide +kernel
theorem dX11_keepDoc_10 : decode cX11_keepDoc 10 = .ok (.aload_n 0, 1) := by decide +kernel
theorem dX11_keepDoc_11 : decode cX11_keepDoc 11 = .ok (.getfield 48, 3) := by decide +kernel
theorem dX11_keepDoc_14 : decode cX11_keepDoc 14 = .ok (.bipush 6, 2) := by decide +kernel
theorem dX11_keepDoc_16 : decode cX11_keepDoc 16 = .ok (.iload_n 1, 1) := by decide +kernel
theorem dX11_keepDoc_17 : decode cX11_keepDoc 17 = .ok (.iadd, 1) := by decide +kernel
theorem dX11_keepDoc_18 : decode cX11_keepDoc 18 = .ok (.aload_n 0, 1) := by decide +kernel
theorem dX11_keepDoc_19 : decode cX11_keepDoc 19 = .ok (.getfield 23, 3) := by decide +kernel
theorem dX11_keepDoc_22 : decode cX11_keepDoc 22 = .ok (.iload_n 1, 1) := by decide +kernel
theorem dX11_keepDoc_23 : decode cX11_keepDoc 23 = .ok (.iaload, 1) := by decide +kernel
theorem dX11_keepDoc_24 : decode cX11_keepDoc 24 = .ok (.iastore, 1) := by decide +kernel
theorem dX11_keepDoc_25 : decode cX11_keepDoc 25 = .ok (.iinc 1 1, 3) := by decide +kernel
theorem dX11_keepDoc_28 : decode cX11_keepDoc 28 = .ok (.goto (-26), 3) := by decide +kernel
theorem dX11_keepDoc_31 : decode cX11_keepDoc 31 = .ok (.aload_n 0, 1) := by decide +kernel
theorem dX11_keepDoc_32 : decode cX11_keepDoc 32 = .ok (.aload_n 0, 1) := by decide +kernel
theorem dX11_keepDoc_33 : decode cX11_keepDoc 33 = .ok (.getfield 220, 3) := by decide +kernel
theorem dX11_keepDoc_36 : decode cX11_keepDoc 36 = .ok (.aload_n 0, 1) := by decide +kernel
theorem dX11_keepDoc_37 : decode cX11_keepDoc 37 = .ok (.getfield 217, 3) := by decide +kernel
theorem dX11_keepDoc_40 : decode cX11_keepDoc 40 = .ok (.invokevirtual 291, 3) := by decide +kernel
theorem dX11_keepDoc_43 : decode cX11_keepDoc 43 = .ok (.return_, 1) := by decide +kernel
theorem dX11_takeCame_0 : decode cX11_takeCame 0 = .ok (.aload_n 0, 1) := by decide +kernel
theorem dX11_takeCame_1 : decode cX11_takeCame 1 = .ok (.aload_n 0, 1) := by decide +kernel
theorem dX11_takeCame_2 : decode cX11_takeCame 2 = .ok (.getfield 295, 3) := by decide +kernel
theorem dX11_takeCame_5 : decode cX11_takeCame 5 = .ok (.putfield 217, 3) := by decide +kernel
theorem dX11_takeCame_8 : decode cX11_takeCame 8 = .ok (.iconst 0, 1) := by decide +kernel
theorem dX11_takeCame_9 : decode cX11_takeCame 9 = .ok (.istore_n 1, 1) := by decide +kernel
theorem dX11_takeCame_10 : decode cX11_takeCame 10 = .ok (.iload_n 1, 1) := by decide +kernel
theorem dX11_takeCame_11 : decode cX11_takeCame 11 = .ok (.aload_n 0, 1) := by decide +kernel
theorem dX11_takeCame_12 : decode cX11_takeCame 12 = .ok (.getfield 295, 3) := by decide +kernel
theorem dX11_takeCame_15 : decode cX11_takeCame 15 = .ok (.if_icmp .ge 21, 3) := by decide +kernel
theorem dX11_takeCame_18 : decode cX11_takeCame 18 = .ok (.aload_n 0, 1) := by decide +kernel
theorem dX11_takeCame_19 : decode cX11_takeCame 19 = .ok (.getfield 23, 3) := by decide +kernel
theorem dX11_takeCame_22 : decode cX11_takeCame 22 = .ok (.iload_n 1, 1) := by decide +kernel
theorem dX11_takeCame_23 : decode cX11_takeCame 23 = .ok (.aload_n 0, 1) := by decide +kernel
theorem dX11_takeCame_24 : decode cX11_takeCame 24 = .ok (.getfield 51, 3) := by decide +kernel
theorem dX11_takeCame_27 : decode cX11_takeCame 27 = .ok (.iload_n 1, 1) := by decide +kernel
theorem dX11_takeCame_28 : decode cX11_takeCame 28 = .ok (.iaload, 1) := by decide +kernel
theorem dX11_takeCame_29 : decode cX11_takeCame 29 = .ok (.iastore, 1) := by decide +kernel
theorem dX11_takeCame_30 : decode cX11_takeCame 30 = .ok (.iinc 1 1, 3) := by decide +kernel
theorem dX11_takeCame_33 : decode cX11_takeCame 33 = .ok (.goto (-23), 3) := by decide +kernel
theorem dX11_takeCame_36 : decode cX11_takeCame 36 = .ok (.aload_n 0, 1) := by decide +kernel
theorem dX11_takeCame_37 : decode cX11_takeCame 37 = .ok (.invokevirtual 270, 3) := by decide +kernel
theorem dX11_takeCame_40 : decode cX11_takeCame 40 = .ok (.istore_n 1, 1) := by decide +kernel
theorem dX11_takeCame_41 : decode cX11_takeCame 41 = .ok (.return_, 1) := by decide +kernel
theorem dX11_fail_0 : decode cX11_fail 0 = .ok (.aload_n 0, 1) := by decide +kernel
theorem dX11_fail_1 : decode cX11_fail 1 = .ok (.iconst 0, 1) := by decide +kernel
theorem dX11_fail_2 : decode cX11_fail 2 = .ok (.putfield 134, 3) := by decide +kernel
theorem dX11_fail_5 : decode cX11_fail 5 = .ok (.aload_n 0, 1) := by decide +kernel
theorem dX11_fail_6 : decode cX11_fail 6 = .ok (.iload_n 1, 1) := by decide +kernel
theorem dX11_fail_7 : decode cX11_fail 7 = .ok (.putfield 298, 3) := by decide +kernel
theorem dX11_fail_10 : decode cX11_fail 10 = .ok (.bipush (-10), 2) := by decide +kernel
theorem dX11_fail_12 : decode cX11_fail 12 = .ok (.iload_n 1, 1) := by decide +kernel
end
section
theorem dX11_fail_13 : decode cX11_fail 13 = .ok (.isub, 1) := by decide +kernel
theorem dX11_fail_14 : decode cX11_fail 14 = .ok (.ireturn, 1) := by decide +kernel
theorem dX11_begin_0 : decode cX11_begin 0 = .ok (.iload_n 1, 1) := by decide +kernel
theorem dX11_begin_1 : decode cX11_begin 1 = .ok (.ifCond .ge 5, 3) := by decide +kernel
theorem dX11_begin_4 : decode cX11_begin 4 = .ok (.iconst (-1), 1) := by decide +kernel
theorem dX11_begin_5 : decode cX11_begin 5 = .ok (.ireturn, 1) := by decide +kernel
theorem dX11_begin_6 : decode cX11_begin 6 = .ok (.aload_n 0, 1) := by decide +kernel
theorem dX11_begin_7 : decode cX11_begin 7 = .ok (.getfield 124, 3) := by decide +kernel
theorem dX11_begin_10 : decode cX11_begin 10 = .ok (.ifCond .eq 6, 3) := by decide +kernel
theorem dX11_begin_13 : decode cX11_begin 13 = .ok (.bipush (-3), 2) := by decide +kernel
theorem dX11_begin_15 : decode cX11_begin 15 = .ok (.ireturn, 1) := by decide +kernel
theorem dX11_begin_16 : decode cX11_begin 16 = .ok (.aload_n 0, 1) := by decide +kernel
theorem dX11_begin_17 : decode cX11_begin 17 = .ok (.getfield 134, 3) := by decide +kernel
theorem dX11_begin_20 : decode cX11_begin 20 = .ok (.ifCond .ne 17, 3) := by decide +kernel
theorem dX11_begin_23 : decode cX11_begin 23 = .ok (.aload_n 0, 1) := by decide +kernel
theorem dX11_begin_24 : decode cX11_begin 24 = .ok (.getfield 128, 3) := by decide +kernel
theorem dX11_begin_27 : decode cX11_begin 27 = .ok (.ifCond .eq 10, 3) := by decide +kernel
theorem dX11_begin_30 : decode cX11_begin 30 = .ok (.aload_n 0, 1) := by decide +kernel
theorem dX11_begin_31 : decode cX11_begin 31 = .ok (.getfield 131, 3) := by decide +kernel
theorem dX11_begin_34 : decode cX11_begin 34 = .ok (.ifCond .eq 6, 3) := by decide +kernel
theorem dX11_begin_37 : decode cX11_begin 37 = .ok (.bipush (-4), 2) := by decide +kernel
theorem dX11_begin_39 : decode cX11_begin 39 = .ok (.ireturn, 1) := by decide +kernel
theorem dX11_begin_40 : decode cX11_begin 40 = .ok (.aload_n 0, 1) := by decide +kernel
theorem dX11_begin_41 : decode cX11_begin 41 = .ok (.iload_n 1, 1) := by decide +kernel
theorem dX11_begin_42 : decode cX11_begin 42 = .ok (.putfield 301, 3) := by decide +kernel
theorem dX11_begin_45 : decode cX11_begin 45 = .ok (.aload_n 0, 1) := by decide +kernel
theorem dX11_begin_46 : decode cX11_begin 46 = .ok (.iconst 1, 1) := by decide +kernel
theorem dX11_begin_47 : decode cX11_begin 47 = .ok (.putfield 134, 3) := by decide +kernel
theorem dX11_begin_50 : decode cX11_begin 50 = .ok (.aload_n 0, 1) := by decide +kernel
theorem dX11_begin_51 : decode cX11_begin 51 = .ok (.iconst 0, 1) := by decide +kernel
theorem dX11_begin_52 : decode cX11_begin 52 = .ok (.putfield 298, 3) := by decide +kernel
theorem dX11_begin_55 : decode cX11_begin 55 = .ok (.iconst 1, 1) := by decide +kernel
theorem dX11_begin_56 : decode cX11_begin 56 = .ok (.ireturn, 1) := by decide +kernel
theorem dX11_answer_0 : decode cX11_answer 0 = .ok (.aload_n 0, 1) := by decide +kernel
theorem dX11_answer_1 : decode cX11_answer 1 = .ok (.getfield 124, 3) := by decide +kernel
theorem dX11_answer_4 : decode cX11_answer 4 = .ok (.ifCond .eq 6, 3) := by decide +kernel
theorem dX11_answer_7 : decode cX11_answer 7 = .ok (.bipush (-3), 2) := by decide +kernel
theorem dX11_answer_9 : decode cX11_answer 9 = .ok (.ireturn, 1) := by decide +kernel
theorem dX11_answer_10 : decode cX11_answer 10 = .ok (.aload_n 0, 1) := by decide +kernel
theorem dX11_answer_11 : decode cX11_answer 11 = .ok (.getfield 134, 3) := by decide +kernel
theorem dX11_answer_14 : decode cX11_answer 14 = .ok (.ifCond .ne 6, 3) := by decide +kernel
theorem dX11_answer_17 : decode cX11_answer 17 = .ok (.bipush (-4), 2) := by decide +kernel
theorem dX11_answer_19 : decode cX11_answer 19 = .ok (.ireturn, 1) := by decide +kernel
theorem dX11_answer_20 : decode cX11_answer 20 = .ok (.aload_n 0, 1) := by decide +kernel
theorem dX11_answer_21 : decode cX11_answer 21 = .ok (.getfield 121, 3) := by decide +kernel
theorem dX11_answer_24 : decode cX11_answer 24 = .ok (.istore_n 1, 1) := by decide +kernel
theorem dX11_answer_25 : decode cX11_answer 25 = .ok (.aload_n 0, 1) := by decide +kernel
theorem dX11_answer_26 : decode cX11_answer 26 = .ok (.iconst 0, 1) := by decide +kernel
theorem dX11_answer_27 : decode cX11_answer 27 = .ok (.putfield 121, 3) := by decide +kernel
theorem dX11_answer_30 : decode cX11_answer 30 = .ok (.aload_n 0, 1) := by decide +kernel
theorem dX11_answer_31 : decode cX11_answer 31 = .ok (.getfield 134, 3) := by decide +kernel
theorem dX11_answer_34 : decode cX11_answer 34 = .ok (.iconst 5, 1) := by decide +kernel
theorem dX11_answer_35 : decode cX11_answer 35 = .ok (.if_icmp .ne 12, 3) := by decide +kernel
theorem dX11_answer_38 : decode cX11_answer 38 = .ok (.aload_n 0, 1) := by decide +kernel
theorem dX11_answer_39 : decode cX11_answer 39 = .ok (.iload_n 1, 1) := by decide +kernel
theorem dX11_answer_40 : decode cX11_answer 40 = .ok (.invokevirtual 304, 3) := by decide +kernel
theorem dX11_answer_43 : decode cX11_answer 43 = .ok (.istore_n 2, 1) := by decide +kernel
theorem dX11_answer_44 : decode cX11_answer 44 = .ok (.goto 128, 3) := by decide +kernel
theorem dX11_answer_47 : decode cX11_answer 47 = .ok (.aload_n 0, 1) := by decide +kernel
theorem dX11_answer_48 : decode cX11_answer 48 = .ok (.iload_n 1, 1) := by decide +kernel
theorem dX11_answer_49 : decode cX11_answer 49 = .ok (.putfield 217, 3) := by decide +kernel
theorem dX11_answer_52 : decode cX11_answer 52 = .ok (.aload_n 0, 1) := by decide +kernel
theorem dX11_answer_53 : decode cX11_answer 53 = .ok (.iload_n 1, 1) := by decide +kernel
theorem dX11_answer_54 : decode cX11_answer 54 = .ok (.putfield 295, 3) := by decide +kernel
theorem dX11_answer_57 : decode cX11_answer 57 = .ok (.iconst 0, 1) := by decide +kernel
theorem dX11_answer_58 : decode cX11_answer 58 = .ok (.istore_n 3, 1) := by decide +kernel
theorem dX11_answer_59 : decode cX11_answer 59 = .ok (.iload_n 3, 1) := by decide +kernel
theorem dX11_answer_60 : decode cX11_answer 60 = .ok (.iload_n 1, 1) := by decide +kernel
theorem dX11_answer_61 : decode cX11_answer 61 = .ok (.if_icmp .ge 33, 3) := by decide +kernel
theorem dX11_answer_64 : decode cX11_answer 64 = .ok (.aload_n 0, 1) := by decide +kernel
theorem dX11_answer_65 : decode cX11_answer 65 = .ok (.getfield 23, 3) := by decide +kernel
theorem dX11_answer_68 : decode cX11_answer 68 = .ok (.iload_n 3, 1) := by decide +kernel
theorem dX11_answer_69 : decode cX11_answer 69 = .ok (.aload_n 0, 1) := by decide +kernel
theorem dX11_answer_70 : decode cX11_answer 70 = .ok (.getfield 17, 3) := by decide +kernel
theorem dX11_answer_73 : decode cX11_answer 73 = .ok (.iload_n 3, 1) := by decide +kernel
theorem dX11_answer_74 : decode cX11_answer 74 = .ok (.iaload, 1) := by decide +kernel
theorem dX11_answer_75 : decode cX11_answer 75 = .ok (.iastore, 1) := by decide +kernel
theorem dX11_answer_76 : decode cX11_answer 76 = .ok (.aload_n 0, 1) := by decide +kernel
theorem dX11_answer_77 : decode cX11_answer 77 = .ok (.getfield 51, 3) := by decide +kernel
theorem dX11_answer_80 : decode cX11_answer 80 = .ok (.iload_n 3, 1) := by decide +kernel
theorem dX11_answer_81 : decode cX11_answer 81 = .ok (.aload_n 0, 1) := by decide +kernel
theorem dX11_answer_82 : decode cX11_answer 82 = .ok (.getfield 17, 3) := by decide +kernel
theorem dX11_answer_85 : decode cX11_answer 85 = .ok (.iload_n 3, 1) := by decide +kernel
theorem dX11_answer_86 : decode cX11_answer 86 = .ok (.iaload, 1) := by decide +kernel
theorem dX11_answer_87 : decode cX11_answer 87 = .ok (.iastore, 1) := by decide +kernel
theorem dX11_answer_88 : decode cX11_answer 88 = .ok (.iinc 3 1, 3) := by decide +kernel
theorem dX11_answer_91 : decode cX11_answer 91 = .ok (.goto (-32), 3) := by decide +kernel
theorem dX11_answer_94 : decode cX11_answer 94 = .ok (.aload_n 0, 1) := by decide +kernel
theorem dX11_answer_95 : decode cX11_answer 95 = .ok (.invokevirtual 270, 3) := by decide +kernel
theorem dX11_answer_98 : decode cX11_answer 98 = .ok (.ifCond .eq 16, 3) := by decide +kernel
theorem dX11_answer_101 : decode cX11_answer 101 = .ok (.aload_n 0, 1) := by decide +kernel
theorem dX11_answer_102 : decode cX11_answer 102 = .ok (.getfield 220, 3) := by decide +kernel
theorem dX11_answer_105 : decode cX11_answer 105 = .ok (.aload_n 0, 1) := by decide +kernel
theorem dX11_answer_106 : decode cX11_answer 106 = .ok (.getfield 134, 3) := by decide +kernel
theorem dX11_answer_109 : decode cX11_answer 109 = .ok (.iconst 1, 1) := by decide +kernel
theorem dX11_answer_110 : decode cX11_answer 110 = .ok (.isub, 1) := by decide +kernel
theorem dX11_answer_111 : decode cX11_answer 111 = .ok (.if_icmp .eq 11, 3) := by decide +kernel
theorem dX11_answer_114 : decode cX11_answer 114 = .ok (.aload_n 0, 1) := by decide +kernel
theorem dX11_answer_115 : decode cX11_answer 115 = .ok (.iconst 1, 1) := by decide +kernel
theorem dX11_answer_116 : decode cX11_answer 116 = .ok (.invokevirtual 307, 3) := by decide +kernel
theorem dX11_answer_119 : decode cX11_answer 119 = .ok (.goto 52, 3) := by decide +kernel
theorem dX11_answer_122 : decode cX11_answer 122 = .ok (.aload_n 0, 1) := by decide +kernel
theorem dX11_answer_123 : decode cX11_answer 123 = .ok (.getfield 134, 3) := by decide +kernel
theorem dX11_answer_126 : decode cX11_answer 126 = .ok (.iconst 1, 1) := by decide +kernel
theorem dX11_answer_127 : decode cX11_answer 127 = .ok (.if_icmp .ne 10, 3) := by decide +kernel
theorem dX11_answer_130 : decode cX11_answer 130 = .ok (.aload_n 0, 1) := by decide +kernel
theorem dX11_answer_131 : decode cX11_answer 131 = .ok (.invokevirtual 310, 3) := by decide +kernel
theorem dX11_answer_134 : decode cX11_answer 134 = .ok (.goto 37, 3) := by decide +kernel
theorem dX11_answer_137 : decode cX11_answer 137 = .ok (.aload_n 0, 1) := by decide +kernel
theorem dX11_answer_138 : decode cX11_answer 138 = .ok (.getfield 134, 3) := by decide +kernel
theorem dX11_answer_141 : decode cX11_answer 141 = .ok (.iconst 2, 1) := by decide +kernel
theorem dX11_answer_142 : decode cX11_answer 142 = .ok (.if_icmp .ne 10, 3) := by decide +kernel
theorem dX11_answer_145 : decode cX11_answer 145 = .ok (.aload_n 0, 1) := by decide +kernel
theorem dX11_answer_146 : decode cX11_answer 146 = .ok (.invokevirtual 313, 3) := by decide +kernel
theorem dX11_answer_149 : decode cX11_answer 149 = .ok (.goto 22, 3) := by decide +kernel
theorem dX11_answer_152 : decode cX11_answer 152 = .ok (.aload_n 0, 1) := by decide +kernel
theorem dX11_answer_153 : decode cX11_answer 153 = .ok (.getfield 134, 3) := by decide +kernel
theorem dX11_answer_156 : decode cX11_answer 156 = .ok (.iconst 3, 1) := by decide +kernel
theorem dX11_answer_157 : decode cX11_answer 157 = .ok (.if_icmp .ne 10, 3) := by decide +kernel
theorem dX11_answer_160 : decode cX11_answer 160 = .ok (.aload_n 0, 1) := by decide +kernel
theorem dX11_answer_161 : decode cX11_answer 161 = .ok (.invokevirtual 316, 3) := by decide +kernel
theorem dX11_answer_164 : decode cX11_answer 164 = .ok (.goto 7, 3) := by decide +kernel
theorem dX11_answer_167 : decode cX11_answer 167 = .ok (.aload_n 0, 1) := by decide +kernel
theorem dX11_answer_168 : decode cX11_answer 168 = .ok (.invokevirtual 319, 3) := by decide +kernel
theorem dX11_answer_171 : decode cX11_answer 171 = .ok (.istore_n 2, 1) := by decide +kernel
theorem dX11_answer_172 : decode cX11_answer 172 = .ok (.aload_n 0, 1) := by decide +kernel
theorem dX11_answer_173 : decode cX11_answer 173 = .ok (.getfield 124, 3) := by decide +kernel
theorem dX11_answer_176 : decode cX11_answer 176 = .ok (.ifCond .eq 8, 3) := by decide +kernel
theorem dX11_answer_179 : decode cX11_answer 179 = .ok (.bipush (-3), 2) := by decide +kernel
theorem dX11_answer_181 : decode cX11_answer 181 = .ok (.goto 4, 3) := by decide +kernel
theorem dX11_answer_184 : decode cX11_answer 184 = .ok (.iload_n 2, 1) := by decide +kernel
theorem dX11_answer_185 : decode cX11_answer 185 = .ok (.ireturn, 1) := by decide +kernel
theorem dX11_refuse_0 : decode cX11_refuse 0 = .ok (.aload_n 0, 1) := by decide +kernel
theorem dX11_refuse_1 : decode cX11_refuse 1 = .ok (.getfield 124, 3) := by decide +kernel
theorem dX11_refuse_4 : decode cX11_refuse 4 = .ok (.ifCond .eq 6, 3) := by decide +kernel
theorem dX11_refuse_7 : decode cX11_refuse 7 = .ok (.bipush (-3), 2) := by decide +kernel
theorem dX11_refuse_9 : decode cX11_refuse 9 = .ok (.ireturn, 1) := by decide +kernel
theorem dX11_refuse_10 : decode cX11_refuse 10 = .ok (.aload_n 0, 1) := by decide +kernel
theorem dX11_refuse_11 : decode cX11_refuse 11 = .ok (.getfield 134, 3) := by decide +kernel
theorem dX11_refuse_14 : decode cX11_refuse 14 = .ok (.ifCond .ne 6, 3) := by decide +kernel
theorem dX11_refuse_17 : decode cX11_refuse 17 = .ok (.bipush (-4), 2) := by decide +kernel
theorem dX11_refuse_19 : decode cX11_refuse 19 = .ok (.ireturn, 1) := by decide +kernel
theorem dX11_refuse_20 : decode cX11_refuse 20 = .ok (.aload_n 0, 1) := by decide +kernel
theorem dX11_refuse_21 : decode cX11_refuse 21 = .ok (.getfield 134, 3) := by decide +kernel
theorem dX11_refuse_24 : decode cX11_refuse 24 = .ok (.iconst 1, 1) := by decide +kernel
theorem dX11_refuse_25 : decode cX11_refuse 25 = .ok (.if_icmp .eq 10, 3) := by decide +kernel
theorem dX11_refuse_28 : decode cX11_refuse 28 = .ok (.aload_n 0, 1) := by decide +kernel
theorem dX11_refuse_29 : decode cX11_refuse 29 = .ok (.bipush 6, 2) := by decide +kernel
theorem dX11_refuse_31 : decode cX11_refuse 31 = .ok (.invokevirtual 307, 3) := by decide +kernel
theorem dX11_refuse_34 : decode cX11_refuse 34 = .ok (.ireturn, 1) := by decide +kernel
theorem dX11_refuse_35 : decode cX11_refuse 35 = .ok (.aload_n 0, 1) := by decide +kernel
theorem dX11_refuse_36 : decode cX11_refuse 36 = .ok (.iconst 0, 1) := by decide +kernel
theorem dX11_refuse_37 : decode cX11_refuse 37 = .ok (.invokevirtual 322, 3) := by decide +kernel
theorem dX11_refuse_40 : decode cX11_refuse 40 = .ok (.istore_n 1, 1) := by decide +kernel
theorem dX11_refuse_41 : decode cX11_refuse 41 = .ok (.aload_n 0, 1) := by decide +kernel
theorem dX11_refuse_42 : decode cX11_refuse 42 = .ok (.getfield 238, 3) := by decide +kernel
theorem dX11_refuse_45 : decode cX11_refuse 45 = .ok (.aload_n 0, 1) := by decide +kernel
theorem dX11_refuse_46 : decode cX11_refuse 46 = .ok (.getfield 301, 3) := by decide +kernel
theorem dX11_refuse_49 : decode cX11_refuse 49 = .ok (.i2l, 1) := by decide +kernel
theorem dX11_refuse_50 : decode cX11_refuse 50 = .ok (.lcmp, 1) := by decide +kernel
theorem dX11_refuse_51 : decode cX11_refuse 51 = .ok (.ifCond .gt 9, 3) := by decide +kernel
theorem dX11_refuse_54 : decode cX11_refuse 54 = .ok (.aload_n 0, 1) := by decide +kernel
theorem dX11_refuse_55 : decode cX11_refuse 55 = .ok (.iconst 4, 1) := by decide +kernel
theorem dX11_refuse_56 : decode cX11_refuse 56 = .ok (.invokevirtual 307, 3) := by decide +kernel
theorem dX11_refuse_59 : decode cX11_refuse 59 = .ok (.ireturn, 1) := by decide +kernel
theorem dX11_refuse_60 : decode cX11_refuse 60 = .ok (.aload_n 0, 1) := by decide +kernel
theorem dX11_refuse_61 : decode cX11_refuse 61 = .ok (.iconst 2, 1) := by decide +kernel
theorem dX11_refuse_62 : decode cX11_refuse 62 = .ok (.putfield 134, 3) := by decide +kernel
theorem dX11_refuse_65 : decode cX11_refuse 65 = .ok (.iconst 2, 1) := by decide +kernel
theorem dX11_refuse_66 : decode cX11_refuse 66 = .ok (.ireturn, 1) := by decide +kernel
theorem dX11_takeRole_0 : decode cX11_takeRole 0 = .ok (.aload_n 0, 1) := by decide +kernel
theorem dX11_takeRole_1 : decode cX11_takeRole 1 = .ok (.iconst 0, 1) := by decide +kernel
theorem dX11_takeRole_2 : decode cX11_takeRole 2 = .ok (.invokevirtual 322, 3) := by decide +kernel
theorem dX11_takeRole_5 : decode cX11_takeRole 5 = .ok (.istore_n 2, 1) := by decide +kernel
theorem dX11_takeRole_6 : decode cX11_takeRole 6 = .ok (.aload_n 0, 1) := by decide +kernel
theorem dX11_takeRole_7 : decode cX11_takeRole 7 = .ok (.aload_n 0, 1) := by decide +kernel
theorem dX11_takeRole_8 : decode cX11_takeRole 8 = .ok (.getfield 26, 3) := by decide +kernel
theorem dX11_takeRole_11 : decode cX11_takeRole 11 = .ok (.iload_n 1, 1) := by decide +kernel
theorem dX11_takeRole_12 : decode cX11_takeRole 12 = .ok (.iaload, 1) := by decide +kernel
theorem dX11_takeRole_13 : decode cX11_takeRole 13 = .ok (.putfield 325, 3) := by decide +kernel
theorem dX11_takeRole_16 : decode cX11_takeRole 16 = .ok (.aload_n 0, 1) := by decide +kernel
theorem dX11_takeRole_17 : decode cX11_takeRole 17 = .ok (.aload_n 0, 1) := by decide +kernel
theorem dX11_takeRole_18 : decode cX11_takeRole 18 = .ok (.getfield 29, 3) := by decide +kernel
theorem dX11_takeRole_21 : decode cX11_takeRole 21 = .ok (.iload_n 1, 1) := by decide +kernel
theorem dX11_takeRole_22 : decode cX11_takeRole 22 = .ok (.iaload, 1) := by decide +kernel
theorem dX11_takeRole_23 : decode cX11_takeRole 23 = .ok (.putfield 328, 3) := by decide +kernel
theorem dX11_takeRole_26 : decode cX11_takeRole 26 = .ok (.return_, 1) := by decide +kernel
theorem dX11_takeRoot_0 : decode cX11_takeRoot 0 = .ok (.aload_n 0, 1) := by decide +kernel
theorem dX11_takeRoot_1 : decode cX11_takeRoot 1 = .ok (.iconst 0, 1) := by decide +kernel
theorem dX11_takeRoot_2 : decode cX11_takeRoot 2 = .ok (.invokevirtual 322, 3) := by decide +kernel
theorem dX11_takeRoot_5 : decode cX11_takeRoot 5 = .ok (.istore_n 1, 1) := by decide +kernel
theorem dX11_takeRoot_6 : decode cX11_takeRoot 6 = .ok (.aload_n 0, 1) := by decide +kernel
theorem dX11_takeRoot_7 : decode cX11_takeRoot 7 = .ok (.getfield 235, 3) := by decide +kernel
theorem dX11_takeRoot_10 : decode cX11_takeRoot 10 = .ok (.istore_n 2, 1) := by decide +kernel
theorem dX11_takeRoot_11 : decode cX11_takeRoot 11 = .ok (.aload_n 0, 1) := by decide +kernel
theorem dX11_takeRoot_12 : decode cX11_takeRoot 12 = .ok (.getfield 26, 3) := by decide +kernel
theorem dX11_takeRoot_15 : decode cX11_takeRoot 15 = .ok (.iconst 0, 1) := by decide +kernel
theorem dX11_takeRoot_16 : decode cX11_takeRoot 16 = .ok (.iaload, 1) := by decide +kernel
theorem dX11_takeRoot_17 : decode cX11_takeRoot 17 = .ok (.istore_n 3, 1) := by decide +kernel
theorem dX11_takeRoot_18 : decode cX11_takeRoot 18 = .ok (.aload_n 0, 1) := by decide +kernel
theorem dX11_takeRoot_19 : decode cX11_takeRoot 19 = .ok (.getfield 29, 3) := by decide +kernel
theorem dX11_takeRoot_22 : decode cX11_takeRoot 22 = .ok (.iconst 0, 1) := by decide +kernel
theorem dX11_takeRoot_23 : decode cX11_takeRoot 23 = .ok (.iaload, 1) := by decide +kernel
theorem dX11_takeRoot_24 : decode cX11_takeRoot 24 = .ok (.istore 4, 2) := by decide +kernel
theorem dX11_takeRoot_26 : decode cX11_takeRoot 26 = .ok (.aload_n 0, 1) := by decide +kernel
theorem dX11_takeRoot_27 : decode cX11_takeRoot 27 = .ok (.getfield 26, 3) := by decide +kernel
theorem dX11_takeRoot_30 : decode cX11_takeRoot 30 = .ok (.iconst 1, 1) := by decide +kernel
theorem dX11_takeRoot_31 : decode cX11_takeRoot 31 = .ok (.iaload, 1) := by decide +kernel
theorem dX11_takeRoot_32 : decode cX11_takeRoot 32 = .ok (.istore 5, 2) := by decide +kernel
theorem dX11_takeRoot_34 : decode cX11_takeRoot 34 = .ok (.aload_n 0, 1) := by decide +kernel
theorem dX11_takeRoot_35 : decode cX11_takeRoot 35 = .ok (.getfield 29, 3) := by decide +kernel
theorem dX11_takeRoot_38 : decode cX11_takeRoot 38 = .ok (.iconst 1, 1) := by decide +kernel
theorem dX11_takeRoot_39 : decode cX11_takeRoot 39 = .ok (.iaload, 1) := by decide +kernel
theorem dX11_takeRoot_40 : decode cX11_takeRoot 40 = .ok (.istore 6, 2) := by decide +kernel
theorem dX11_takeRoot_42 : decode cX11_takeRoot 42 = .ok (.aload_n 0, 1) := by decide +kernel
theorem dX11_takeRoot_43 : decode cX11_takeRoot 43 = .ok (.getfield 26, 3) := by decide +kernel
theorem dX11_takeRoot_46 : decode cX11_takeRoot 46 = .ok (.iconst 2, 1) := by decide +kernel
theorem dX11_takeRoot_47 : decode cX11_takeRoot 47 = .ok (.iaload, 1) := by decide +kernel
theorem dX11_takeRoot_48 : decode cX11_takeRoot 48 = .ok (.istore 7, 2) := by decide +kernel
theorem dX11_takeRoot_50 : decode cX11_takeRoot 50 = .ok (.aload_n 0, 1) := by decide +kernel
theorem dX11_takeRoot_51 : decode cX11_takeRoot 51 = .ok (.getfield 29, 3) := by decide +kernel
theorem dX11_takeRoot_54 : decode cX11_takeRoot 54 = .ok (.iconst 2, 1) := by decide +kernel
theorem dX11_takeRoot_55 : decode cX11_takeRoot 55 = .ok (.iaload, 1) := by decide +kernel
theorem dX11_takeRoot_56 : decode cX11_takeRoot 56 = .ok (.istore 8, 2) := by decide +kernel
theorem dX11_takeRoot_58 : decode cX11_takeRoot 58 = .ok (.aload_n 0, 1) := by decide +kernel
theorem dX11_takeRoot_59 : decode cX11_takeRoot 59 = .ok (.invokevirtual 331, 3) := by decide +kernel
theorem dX11_takeRoot_62 : decode cX11_takeRoot 62 = .ok (.aload_n 0, 1) := by decide +kernel
theorem dX11_takeRoot_63 : decode cX11_takeRoot 63 = .ok (.getfield 235, 3) := by decide +kernel
theorem dX11_takeRoot_66 : decode cX11_takeRoot 66 = .ok (.iload_n 2, 1) := by decide +kernel
theorem dX11_takeRoot_67 : decode cX11_takeRoot 67 = .ok (.iconst 1, 1) := by decide +kernel
theorem dX11_takeRoot_68 : decode cX11_takeRoot 68 = .ok (.iadd, 1) := by decide +kernel
theorem dX11_takeRoot_69 : decode cX11_takeRoot 69 = .ok (.if_icmp .eq 9, 3) := by decide +kernel
theorem dX11_takeRoot_72 : decode cX11_takeRoot 72 = .ok (.aload_n 0, 1) := by decide +kernel
theorem dX11_takeRoot_73 : decode cX11_takeRoot 73 = .ok (.iconst 3, 1) := by decide +kernel
theorem dX11_takeRoot_74 : decode cX11_takeRoot 74 = .ok (.invokevirtual 307, 3) := by decide +kernel
theorem dX11_takeRoot_77 : decode cX11_takeRoot 77 = .ok (.ireturn, 1) := by decide +kernel
theorem dX11_takeRoot_78 : decode cX11_takeRoot 78 = .ok (.aload_n 0, 1) := by decide +kernel
theorem dX11_takeRoot_79 : decode cX11_takeRoot 79 = .ok (.iload_n 3, 1) := by decide +kernel
theorem dX11_takeRoot_80 : decode cX11_takeRoot 80 = .ok (.iload 4, 2) := by decide +kernel
theorem dX11_takeRoot_82 : decode cX11_takeRoot 82 = .ok (.invokevirtual 334, 3) := by decide +kernel
theorem dX11_takeRoot_85 : decode cX11_takeRoot 85 = .ok (.ifCond .eq 22, 3) := by decide +kernel
theorem dX11_takeRoot_88 : decode cX11_takeRoot 88 = .ok (.aload_n 0, 1) := by decide +kernel
theorem dX11_takeRoot_89 : decode cX11_takeRoot 89 = .ok (.aload_n 0, 1) := by decide +kernel
theorem dX11_takeRoot_90 : decode cX11_takeRoot 90 = .ok (.getfield 26, 3) := by decide +kernel
theorem dX11_takeRoot_93 : decode cX11_takeRoot 93 = .ok (.iconst 0, 1) := by decide +kernel
theorem dX11_takeRoot_94 : decode cX11_takeRoot 94 = .ok (.iaload, 1) := by decide +kernel
theorem dX11_takeRoot_95 : decode cX11_takeRoot 95 = .ok (.aload_n 0, 1) := by decide +kernel
theorem dX11_takeRoot_96 : decode cX11_takeRoot 96 = .ok (.getfield 29, 3) := by decide +kernel
theorem dX11_takeRoot_99 : decode cX11_takeRoot 99 = .ok (.iconst 0, 1) := by decide +kernel
theorem dX11_takeRoot_100 : decode cX11_takeRoot 100 = .ok (.iaload, 1) := by decide +kernel
theorem dX11_takeRoot_101 : decode cX11_takeRoot 101 = .ok (.invokevirtual 334, 3) := by decide +kernel
theorem dX11_takeRoot_104 : decode cX11_takeRoot 104 = .ok (.ifCond .ne 9, 3) := by decide +kernel
theorem dX11_takeRoot_107 : decode cX11_takeRoot 107 = .ok (.aload_n 0, 1) := by decide +kernel
theorem dX11_takeRoot_108 : decode cX11_takeRoot 108 = .ok (.iconst 2, 1) := by decide +kernel
theorem dX11_takeRoot_109 : decode cX11_takeRoot 109 = .ok (.invokevirtual 307, 3) := by decide +kernel
theorem dX11_takeRoot_112 : decode cX11_takeRoot 112 = .ok (.ireturn, 1) := by decide +kernel
theorem dX11_takeRoot_113 : decode cX11_takeRoot 113 = .ok (.iload 5, 2) := by decide +kernel
theorem dX11_takeRoot_115 : decode cX11_takeRoot 115 = .ok (.aload_n 0, 1) := by decide +kernel
theorem dX11_takeRoot_116 : decode cX11_takeRoot 116 = .ok (.getfield 26, 3) := by decide +kernel
theorem dX11_takeRoot_119 : decode cX11_takeRoot 119 = .ok (.iconst 1, 1) := by decide +kernel
theorem dX11_takeRoot_120 : decode cX11_takeRoot 120 = .ok (.iaload, 1) := by decide +kernel
theorem dX11_takeRoot_121 : decode cX11_takeRoot 121 = .ok (.if_icmp .ne 36, 3) := by decide +kernel
theorem dX11_takeRoot_124 : decode cX11_takeRoot 124 = .ok (.iload 6, 2) := by decide +kernel
theorem dX11_takeRoot_126 : decode cX11_takeRoot 126 = .ok (.aload_n 0, 1) := by decide +kernel
theorem dX11_takeRoot_127 : decode cX11_takeRoot 127 = .ok (.getfield 29, 3) := by decide +kernel
theorem dX11_takeRoot_130 : decode cX11_takeRoot 130 = .ok (.iconst 1, 1) := by decide +kernel
theorem dX11_takeRoot_131 : decode cX11_takeRoot 131 = .ok (.iaload, 1) := by decide +kernel
theorem dX11_takeRoot_132 : decode cX11_takeRoot 132 = .ok (.if_icmp .ne 25, 3) := by decide +kernel
theorem dX11_takeRoot_135 : decode cX11_takeRoot 135 = .ok (.iload 7, 2) := by decide +kernel
theorem dX11_takeRoot_137 : decode cX11_takeRoot 137 = .ok (.aload_n 0, 1) := by decide +kernel
theorem dX11_takeRoot_138 : decode cX11_takeRoot 138 = .ok (.getfield 26, 3) := by decide +kernel
theorem dX11_takeRoot_141 : decode cX11_takeRoot 141 = .ok (.iconst 2, 1) := by decide +kernel
theorem dX11_takeRoot_142 : decode cX11_takeRoot 142 = .ok (.iaload, 1) := by decide +kernel
theorem dX11_takeRoot_143 : decode cX11_takeRoot 143 = .ok (.if_icmp .ne 14, 3) := by decide +kernel
theorem dX11_takeRoot_146 : decode cX11_takeRoot 146 = .ok (.iload 8, 2) := by decide +kernel
theorem dX11_takeRoot_148 : decode cX11_takeRoot 148 = .ok (.aload_n 0, 1) := by decide +kernel
theorem dX11_takeRoot_149 : decode cX11_takeRoot 149 = .ok (.getfield 29, 3) := by decide +kernel
theorem dX11_takeRoot_152 : decode cX11_takeRoot 152 = .ok (.iconst 2, 1) := by decide +kernel
theorem dX11_takeRoot_153 : decode cX11_takeRoot 153 = .ok (.iaload, 1) := by decide +kernel
theorem dX11_takeRoot_154 : decode cX11_takeRoot 154 = .ok (.if_icmp .eq 7, 3) := by decide +kernel
theorem dX11_takeRoot_157 : decode cX11_takeRoot 157 = .ok (.iconst 1, 1) := by decide +kernel
theorem dX11_takeRoot_158 : decode cX11_takeRoot 158 = .ok (.goto 4, 3) := by decide +kernel
theorem dX11_takeRoot_161 : decode cX11_takeRoot 161 = .ok (.iconst 0, 1) := by decide +kernel
theorem dX11_takeRoot_162 : decode cX11_takeRoot 162 = .ok (.istore 9, 2) := by decide +kernel
theorem dX11_takeRoot_164 : decode cX11_takeRoot 164 = .ok (.iload 9, 2) := by decide +kernel
theorem dX11_takeRoot_166 : decode cX11_takeRoot 166 = .ok (.ifCond .eq 13, 3) := by decide +kernel
theorem dX11_takeRoot_169 : decode cX11_takeRoot 169 = .ok (.aload_n 0, 1) := by decide +kernel
theorem dX11_takeRoot_170 : decode cX11_takeRoot 170 = .ok (.iconst 1, 1) := by decide +kernel
theorem dX11_takeRoot_171 : decode cX11_takeRoot 171 = .ok (.invokevirtual 338, 3) := by decide +kernel
theorem dX11_takeRoot_174 : decode cX11_takeRoot 174 = .ok (.aload_n 0, 1) := by decide +kernel
theorem dX11_takeRoot_175 : decode cX11_takeRoot 175 = .ok (.iconst 2, 1) := by decide +kernel
theorem dX11_takeRoot_176 : decode cX11_takeRoot 176 = .ok (.invokevirtual 338, 3) := by decide +kernel
theorem dX11_takeRoot_179 : decode cX11_takeRoot 179 = .ok (.aload_n 0, 1) := by decide +kernel
theorem dX11_takeRoot_180 : decode cX11_takeRoot 180 = .ok (.invokevirtual 331, 3) := by decide +kernel
theorem dX11_takeRoot_183 : decode cX11_takeRoot 183 = .ok (.aload_n 0, 1) := by decide +kernel
theorem dX11_takeRoot_184 : decode cX11_takeRoot 184 = .ok (.getfield 124, 3) := by decide +kernel
theorem dX11_takeRoot_187 : decode cX11_takeRoot 187 = .ok (.ifCond .ne 7, 3) := by decide +kernel
theorem dX11_takeRoot_190 : decode cX11_takeRoot 190 = .ok (.aload_n 0, 1) := by decide +kernel
theorem dX11_takeRoot_191 : decode cX11_takeRoot 191 = .ok (.invokevirtual 341, 3) := by decide +kernel
theorem dX11_takeRoot_194 : decode cX11_takeRoot 194 = .ok (.iconst 1, 1) := by decide +kernel
theorem dX11_takeRoot_195 : decode cX11_takeRoot 195 = .ok (.ireturn, 1) := by decide +kernel
theorem dX11_dropTrusted_0 : decode cX11_dropTrusted 0 = .ok (.aload_n 0, 1) := by decide +kernel
theorem dX11_dropTrusted_1 : decode cX11_dropTrusted 1 = .ok (.getfield 124, 3) := by decide +kernel
theorem dX11_dropTrusted_4 : decode cX11_dropTrusted 4 = .ok (.ifCond .ne 17, 3) := by decide +kernel
theorem dX11_dropTrusted_7 : decode cX11_dropTrusted 7 = .ok (.aload_n 0, 1) := by decide +kernel
theorem dX11_dropTrusted_8 : decode cX11_dropTrusted 8 = .ok (.iload_n 1, 1) := by decide +kernel
theorem dX11_dropTrusted_9 : decode cX11_dropTrusted 9 = .ok (.invokevirtual 322, 3) := by decide +kernel
theorem dX11_dropTrusted_12 : decode cX11_dropTrusted 12 = .ok (.ifCond .eq 9, 3) := by decide +kernel
theorem dX11_dropTrusted_15 : decode cX11_dropTrusted 15 = .ok (.aload_n 0, 1) := by decide +kernel
theorem dX11_dropTrusted_16 : decode cX11_dropTrusted 16 = .ok (.iload_n 1, 1) := by decide +kernel
theorem dX11_dropTrusted_17 : decode cX11_dropTrusted 17 = .ok (.iconst 0, 1) := by decide +kernel
theorem dX11_dropTrusted_18 : decode cX11_dropTrusted 18 = .ok (.invokevirtual 291, 3) := by decide +kernel
theorem dX11_dropTrusted_21 : decode cX11_dropTrusted 21 = .ok (.return_, 1) := by decide +kernel
theorem dX11_takeWas_0 : decode cX11_takeWas 0 = .ok (.aload_n 0, 1) := by decide +kernel
theorem dX11_takeWas_1 : decode cX11_takeWas 1 = .ok (.aload_n 0, 1) := by decide +kernel
theorem dX11_takeWas_2 : decode cX11_takeWas 2 = .ok (.iload_n 1, 1) := by decide +kernel
theorem dX11_takeWas_3 : decode cX11_takeWas 3 = .ok (.invokevirtual 322, 3) := by decide +kernel
theorem dX11_takeWas_6 : decode cX11_takeWas 6 = .ok (.putfield 344, 3) := by decide +kernel
theorem dX11_takeWas_9 : decode cX11_takeWas 9 = .ok (.aload_n 0, 1) := by decide +kernel
theorem dX11_takeWas_10 : decode cX11_takeWas 10 = .ok (.aload_n 0, 1) := by decide +kernel
theorem dX11_takeWas_11 : decode cX11_takeWas 11 = .ok (.getfield 344, 3) := by decide +kernel
theorem dX11_takeWas_14 : decode cX11_takeWas 14 = .ok (.ifCond .eq 10, 3) := by decide +kernel
theorem dX11_takeWas_17 : decode cX11_takeWas 17 = .ok (.aload_n 0, 1) := by decide +kernel
theorem dX11_takeWas_18 : decode cX11_takeWas 18 = .ok (.getfield 235, 3) := by decide +kernel
theorem dX11_takeWas_21 : decode cX11_takeWas 21 = .ok (.goto 4, 3) := by decide +kernel
theorem dX11_takeWas_24 : decode cX11_takeWas 24 = .ok (.iconst 0, 1) := by decide +kernel
theorem dX11_takeWas_25 : decode cX11_takeWas 25 = .ok (.putfield 347, 3) := by decide +kernel
theorem dX11_takeWas_28 : decode cX11_takeWas 28 = .ok (.aload_n 0, 1) := by decide +kernel
theorem dX11_takeWas_29 : decode cX11_takeWas 29 = .ok (.aload_n 0, 1) := by decide +kernel
theorem dX11_takeWas_30 : decode cX11_takeWas 30 = .ok (.getfield 344, 3) := by decide +kernel
theorem dX11_takeWas_33 : decode cX11_takeWas 33 = .ok (.ifCond .eq 10, 3) := by decide +kernel
theorem dX11_takeWas_36 : decode cX11_takeWas 36 = .ok (.aload_n 0, 1) := by decide +kernel
theorem dX11_takeWas_37 : decode cX11_takeWas 37 = .ok (.getfield 247, 3) := by decide +kernel
theorem dX11_takeWas_40 : decode cX11_takeWas 40 = .ok (.goto 4, 3) := by decide +kernel
theorem dX11_takeWas_43 : decode cX11_takeWas 43 = .ok (.iconst 0, 1) := by decide +kernel
theorem dX11_takeWas_44 : decode cX11_takeWas 44 = .ok (.putfield 350, 3) := by decide +kernel
theorem dX11_takeWas_47 : decode cX11_takeWas 47 = .ok (.aload_n 0, 1) := by decide +kernel
theorem dX11_takeWas_48 : decode cX11_takeWas 48 = .ok (.aload_n 0, 1) := by decide +kernel
theorem dX11_takeWas_49 : decode cX11_takeWas 49 = .ok (.getfield 344, 3) := by decide +kernel
theorem dX11_takeWas_52 : decode cX11_takeWas 52 = .ok (.ifCond .eq 10, 3) := by decide +kernel
theorem dX11_takeWas_55 : decode cX11_takeWas 55 = .ok (.aload_n 0, 1) := by decide +kernel
theorem dX11_takeWas_56 : decode cX11_takeWas 56 = .ok (.invokevirtual 262, 3) := by decide +kernel
theorem dX11_takeWas_59 : decode cX11_takeWas 59 = .ok (.goto 4, 3) := by decide +kernel
theorem dX11_takeWas_62 : decode cX11_takeWas 62 = .ok (.lconst 0, 1) := by decide +kernel
theorem dX11_takeWas_63 : decode cX11_takeWas 63 = .ok (.putfield 353, 3) := by decide +kernel
theorem dX11_takeWas_66 : decode cX11_takeWas 66 = .ok (.return_, 1) := by decide +kernel
theorem dX11_keepOther_0 : decode cX11_keepOther 0 = .ok (.aload_n 0, 1) := by decide +kernel
theorem dX11_keepOther_1 : decode cX11_keepOther 1 = .ok (.iload_n 1, 1) := by decide +kernel
theorem dX11_keepOther_2 : decode cX11_keepOther 2 = .ok (.invokevirtual 322, 3) := by decide +kernel
theorem dX11_keepOther_5 : decode cX11_keepOther 5 = .ok (.istore_n 2, 1) := by decide +kernel
theorem dX11_keepOther_6 : decode cX11_keepOther 6 = .ok (.iload_n 2, 1) := by decide +kernel
theorem dX11_keepOther_7 : decode cX11_keepOther 7 = .ok (.ifCond .eq 10, 3) := by decide +kernel
theorem dX11_keepOther_10 : decode cX11_keepOther 10 = .ok (.aload_n 0, 1) := by decide +kernel
theorem dX11_keepOther_11 : decode cX11_keepOther 11 = .ok (.getfield 226, 3) := by decide +kernel
theorem dX11_keepOther_14 : decode cX11_keepOther 14 = .ok (.goto 4, 3) := by decide +kernel
theorem dX11_keepOther_17 : decode cX11_keepOther 17 = .ok (.iconst (-1), 1) := by decide +kernel
theorem dX11_keepOther_18 : decode cX11_keepOther 18 = .ok (.istore_n 3, 1) := by decide +kernel
theorem dX11_keepOther_19 : decode cX11_keepOther 19 = .ok (.iconst 0, 1) := by decide +kernel
theorem dX11_keepOther_20 : decode cX11_keepOther 20 = .ok (.istore 4, 2) := by decide +kernel
theorem dX11_keepOther_22 : decode cX11_keepOther 22 = .ok (.iload 4, 2) := by decide +kernel
theorem dX11_keepOther_24 : decode cX11_keepOther 24 = .ok (.aload_n 0, 1) := by decide +kernel
theorem dX11_keepOther_25 : decode cX11_keepOther 25 = .ok (.getfield 217, 3) := by decide +kernel
theorem dX11_keepOther_28 : decode cX11_keepOther 28 = .ok (.if_icmp .ge 23, 3) := by decide +kernel
theorem dX11_keepOther_31 : decode cX11_keepOther 31 = .ok (.aload_n 0, 1) := by decide +kernel
theorem dX11_keepOther_32 : decode cX11_keepOther 32 = .ok (.getfield 48, 3) := by decide +kernel
theorem dX11_keepOther_35 : decode cX11_keepOther 35 = .ok (.iload 4, 2) := by decide +kernel
theorem dX11_keepOther_37 : decode cX11_keepOther 37 = .ok (.aload_n 0, 1) := by decide +kernel
theorem dX11_keepOther_38 : decode cX11_keepOther 38 = .ok (.getfield 23, 3) := by decide +kernel
theorem dX11_keepOther_41 : decode cX11_keepOther 41 = .ok (.iload 4, 2) := by decide +kernel
theorem dX11_keepOther_43 : decode cX11_keepOther 43 = .ok (.iaload, 1) := by decide +kernel
theorem dX11_keepOther_44 : decode cX11_keepOther 44 = .ok (.iastore, 1) := by decide +kernel
theorem dX11_keepOther_45 : decode cX11_keepOther 45 = .ok (.iinc 4 1, 3) := by decide +kernel
theorem dX11_keepOther_48 : decode cX11_keepOther 48 = .ok (.goto (-26), 3) := by decide +kernel
theorem dX11_keepOther_51 : decode cX11_keepOther 51 = .ok (.aload_n 0, 1) := by decide +kernel
theorem dX11_keepOther_52 : decode cX11_keepOther 52 = .ok (.invokevirtual 331, 3) := by decide +kernel
theorem dX11_keepOther_55 : decode cX11_keepOther 55 = .ok (.iload_n 3, 1) := by decide +kernel
theorem dX11_keepOther_56 : decode cX11_keepOther 56 = .ok (.aload_n 0, 1) := by decide +kernel
theorem dX11_keepOther_57 : decode cX11_keepOther 57 = .ok (.getfield 226, 3) := by decide +kernel
theorem dX11_keepOther_60 : decode cX11_keepOther 60 = .ok (.if_icmp .ne 7, 3) := by decide +kernel
theorem dX11_keepOther_63 : decode cX11_keepOther 63 = .ok (.iconst 1, 1) := by decide +kernel
theorem dX11_keepOther_64 : decode cX11_keepOther 64 = .ok (.goto 4, 3) := by decide +kernel
theorem dX11_keepOther_67 : decode cX11_keepOther 67 = .ok (.iconst 0, 1) := by decide +kernel
theorem dX11_keepOther_68 : decode cX11_keepOther 68 = .ok (.istore 4, 2) := by decide +kernel
theorem dX11_keepOther_70 : decode cX11_keepOther 70 = .ok (.iconst 0, 1) := by decide +kernel
theorem dX11_keepOther_71 : decode cX11_keepOther 71 = .ok (.istore 5, 2) := by decide +kernel
theorem dX11_keepOther_73 : decode cX11_keepOther 73 = .ok (.iload 5, 2) := by decide +kernel
theorem dX11_keepOther_75 : decode cX11_keepOther 75 = .ok (.aload_n 0, 1) := by decide +kernel
theorem dX11_keepOther_76 : decode cX11_keepOther 76 = .ok (.getfield 226, 3) := by decide +kernel
theorem dX11_keepOther_79 : decode cX11_keepOther 79 = .ok (.if_icmp .ge 42, 3) := by decide +kernel
theorem dX11_keepOther_82 : decode cX11_keepOther 82 = .ok (.iload 4, 2) := by decide +kernel
theorem dX11_keepOther_84 : decode cX11_keepOther 84 = .ok (.ifCond .eq 37, 3) := by decide +kernel
theorem dX11_keepOther_87 : decode cX11_keepOther 87 = .ok (.aload_n 0, 1) := by decide +kernel
theorem dX11_keepOther_88 : decode cX11_keepOther 88 = .ok (.getfield 48, 3) := by decide +kernel
theorem dX11_keepOther_91 : decode cX11_keepOther 91 = .ok (.iconst 3, 1) := by decide +kernel
theorem dX11_keepOther_92 : decode cX11_keepOther 92 = .ok (.iload 5, 2) := by decide +kernel
theorem dX11_keepOther_94 : decode cX11_keepOther 94 = .ok (.iadd, 1) := by decide +kernel
theorem dX11_keepOther_95 : decode cX11_keepOther 95 = .ok (.iaload, 1) := by decide +kernel
theorem dX11_keepOther_96 : decode cX11_keepOther 96 = .ok (.aload_n 0, 1) := by decide +kernel
theorem dX11_keepOther_97 : decode cX11_keepOther 97 = .ok (.getfield 23, 3) := by decide +kernel
theorem dX11_keepOther_100 : decode cX11_keepOther 100 = .ok (.iconst 3, 1) := by decide +kernel
theorem dX11_keepOther_101 : decode cX11_keepOther 101 = .ok (.iload 5, 2) := by decide +kernel
theorem dX11_keepOther_103 : decode cX11_keepOther 103 = .ok (.iadd, 1) := by decide +kernel
theorem dX11_keepOther_104 : decode cX11_keepOther 104 = .ok (.iaload, 1) := by decide +kernel
theorem dX11_keepOther_105 : decode cX11_keepOther 105 = .ok (.if_icmp .ne 7, 3) := by decide +kernel
theorem dX11_keepOther_108 : decode cX11_keepOther 108 = .ok (.iconst 1, 1) := by decide +kernel
theorem dX11_keepOther_109 : decode cX11_keepOther 109 = .ok (.goto 4, 3) := by decide +kernel
theorem dX11_keepOther_112 : decode cX11_keepOther 112 = .ok (.iconst 0, 1) := by decide +kernel
theorem dX11_keepOther_113 : decode cX11_keepOther 113 = .ok (.istore 4, 2) := by decide +kernel
theorem dX11_keepOther_115 : decode cX11_keepOther 115 = .ok (.iinc 5 1, 3) := by decide +kernel
theorem dX11_keepOther_118 : decode cX11_keepOther 118 = .ok (.goto (-45), 3) := by decide +kernel
theorem dX11_keepOther_121 : decode cX11_keepOther 121 = .ok (.iload 4, 2) := by decide +kernel
theorem dX11_keepOther_123 : decode cX11_keepOther 123 = .ok (.ifCond .ne 7, 3) := by decide +kernel
theorem dX11_keepOther_126 : decode cX11_keepOther 126 = .ok (.aload_n 0, 1) := by decide +kernel
theorem dX11_keepOther_127 : decode cX11_keepOther 127 = .ok (.invokevirtual 341, 3) := by decide +kernel
theorem dX11_keepOther_130 : decode cX11_keepOther 130 = .ok (.return_, 1) := by decide +kernel
theorem dX11_takeTime_0 : decode cX11_takeTime 0 = .ok (.aload_n 0, 1) := by decide +kernel
theorem dX11_takeTime_1 : decode cX11_takeTime 1 = .ok (.iconst 1, 1) := by decide +kernel
theorem dX11_takeTime_2 : decode cX11_takeTime 2 = .ok (.invokevirtual 356, 3) := by decide +kernel
theorem dX11_takeTime_5 : decode cX11_takeTime 5 = .ok (.aload_n 0, 1) := by decide +kernel
theorem dX11_takeTime_6 : decode cX11_takeTime 6 = .ok (.iconst 1, 1) := by decide +kernel
theorem dX11_takeTime_7 : decode cX11_takeTime 7 = .ok (.invokevirtual 359, 3) := by decide +kernel
theorem dX11_takeTime_10 : decode cX11_takeTime 10 = .ok (.aload_n 0, 1) := by decide +kernel
theorem dX11_takeTime_11 : decode cX11_takeTime 11 = .ok (.invokevirtual 331, 3) := by decide +kernel
theorem dX11_takeTime_14 : decode cX11_takeTime 14 = .ok (.aload_n 0, 1) := by decide +kernel
theorem dX11_takeTime_15 : decode cX11_takeTime 15 = .ok (.aload_n 0, 1) := by decide +kernel
theorem dX11_takeTime_16 : decode cX11_takeTime 16 = .ok (.getfield 325, 3) := by decide +kernel
theorem dX11_takeTime_19 : decode cX11_takeTime 19 = .ok (.aload_n 0, 1) := by decide +kernel
theorem dX11_takeTime_20 : decode cX11_takeTime 20 = .ok (.getfield 328, 3) := by decide +kernel
theorem dX11_takeTime_23 : decode cX11_takeTime 23 = .ok (.invokevirtual 334, 3) := by decide +kernel
theorem dX11_takeTime_26 : decode cX11_takeTime 26 = .ok (.ifCond .ne 9, 3) := by decide +kernel
theorem dX11_takeTime_29 : decode cX11_takeTime 29 = .ok (.aload_n 0, 1) := by decide +kernel
theorem dX11_takeTime_30 : decode cX11_takeTime 30 = .ok (.iconst 2, 1) := by decide +kernel
theorem dX11_takeTime_31 : decode cX11_takeTime 31 = .ok (.invokevirtual 307, 3) := by decide +kernel
theorem dX11_takeTime_34 : decode cX11_takeTime 34 = .ok (.ireturn, 1) := by decide +kernel
theorem dX11_takeTime_35 : decode cX11_takeTime 35 = .ok (.aload_n 0, 1) := by decide +kernel
theorem dX11_takeTime_36 : decode cX11_takeTime 36 = .ok (.getfield 235, 3) := by decide +kernel
theorem dX11_takeTime_39 : decode cX11_takeTime 39 = .ok (.aload_n 0, 1) := by decide +kernel
theorem dX11_takeTime_40 : decode cX11_takeTime 40 = .ok (.getfield 347, 3) := by decide +kernel
theorem dX11_takeTime_43 : decode cX11_takeTime 43 = .ok (.if_icmp .ge 9, 3) := by decide +kernel
theorem dX11_takeTime_46 : decode cX11_takeTime 46 = .ok (.aload_n 0, 1) := by decide +kernel
theorem dX11_takeTime_47 : decode cX11_takeTime 47 = .ok (.iconst 3, 1) := by decide +kernel
theorem dX11_takeTime_48 : decode cX11_takeTime 48 = .ok (.invokevirtual 307, 3) := by decide +kernel
theorem dX11_takeTime_51 : decode cX11_takeTime 51 = .ok (.ireturn, 1) := by decide +kernel
theorem dX11_takeTime_52 : decode cX11_takeTime 52 = .ok (.aload_n 0, 1) := by decide +kernel
theorem dX11_takeTime_53 : decode cX11_takeTime 53 = .ok (.getfield 247, 3) := by decide +kernel
theorem dX11_takeTime_56 : decode cX11_takeTime 56 = .ok (.aload_n 0, 1) := by decide +kernel
theorem dX11_takeTime_57 : decode cX11_takeTime 57 = .ok (.getfield 350, 3) := by decide +kernel
theorem dX11_takeTime_60 : decode cX11_takeTime 60 = .ok (.if_icmp .ge 10, 3) := by decide +kernel
theorem dX11_takeTime_63 : decode cX11_takeTime 63 = .ok (.aload_n 0, 1) := by decide +kernel
theorem dX11_takeTime_64 : decode cX11_takeTime 64 = .ok (.bipush 10, 2) := by decide +kernel
theorem dX11_takeTime_66 : decode cX11_takeTime 66 = .ok (.invokevirtual 307, 3) := by decide +kernel
theorem dX11_takeTime_69 : decode cX11_takeTime 69 = .ok (.ireturn, 1) := by decide +kernel
theorem dX11_takeTime_70 : decode cX11_takeTime 70 = .ok (.aload_n 0, 1) := by decide +kernel
theorem dX11_takeTime_71 : decode cX11_takeTime 71 = .ok (.getfield 238, 3) := by decide +kernel
theorem dX11_takeTime_74 : decode cX11_takeTime 74 = .ok (.aload_n 0, 1) := by decide +kernel
theorem dX11_takeTime_75 : decode cX11_takeTime 75 = .ok (.getfield 301, 3) := by decide +kernel
theorem dX11_takeTime_78 : decode cX11_takeTime 78 = .ok (.i2l, 1) := by decide +kernel
theorem dX11_takeTime_79 : decode cX11_takeTime 79 = .ok (.lcmp, 1) := by decide +kernel
theorem dX11_takeTime_80 : decode cX11_takeTime 80 = .ok (.ifCond .gt 9, 3) := by decide +kernel
theorem dX11_takeTime_83 : decode cX11_takeTime 83 = .ok (.aload_n 0, 1) := by decide +kernel
theorem dX11_takeTime_84 : decode cX11_takeTime 84 = .ok (.iconst 4, 1) := by decide +kernel
theorem dX11_takeTime_85 : decode cX11_takeTime 85 = .ok (.invokevirtual 307, 3) := by decide +kernel
theorem dX11_takeTime_88 : decode cX11_takeTime 88 = .ok (.ireturn, 1) := by decide +kernel
theorem dX11_takeTime_89 : decode cX11_takeTime 89 = .ok (.aload_n 0, 1) := by decide +kernel
theorem dX11_takeTime_90 : decode cX11_takeTime 90 = .ok (.iconst 1, 1) := by decide +kernel
theorem dX11_takeTime_91 : decode cX11_takeTime 91 = .ok (.invokevirtual 362, 3) := by decide +kernel
theorem dX11_takeTime_94 : decode cX11_takeTime 94 = .ok (.aload_n 0, 1) := by decide +kernel
theorem dX11_takeTime_95 : decode cX11_takeTime 95 = .ok (.getfield 124, 3) := by decide +kernel
theorem dX11_takeTime_98 : decode cX11_takeTime 98 = .ok (.ifCond .eq 8, 3) := by decide +kernel
theorem dX11_takeTime_101 : decode cX11_takeTime 101 = .ok (.bipush (-3), 2) := by decide +kernel
theorem dX11_takeTime_103 : decode cX11_takeTime 103 = .ok (.goto 7, 3) := by decide +kernel
theorem dX11_takeTime_106 : decode cX11_takeTime 106 = .ok (.aload_n 0, 1) := by decide +kernel
theorem dX11_takeTime_107 : decode cX11_takeTime 107 = .ok (.invokevirtual 365, 3) := by decide +kernel
theorem dX11_takeTime_110 : decode cX11_takeTime 110 = .ok (.ireturn, 1) := by decide +kernel
theorem dX11_goToList_0 : decode cX11_goToList 0 = .ok (.aload_n 0, 1) := by decide +kernel
theorem dX11_goToList_1 : decode cX11_goToList 1 = .ok (.iconst 1, 1) := by decide +kernel
theorem dX11_goToList_2 : decode cX11_goToList 2 = .ok (.invokevirtual 322, 3) := by decide +kernel
theorem dX11_goToList_5 : decode cX11_goToList 5 = .ok (.istore_n 1, 1) := by decide +kernel
theorem dX11_goToList_6 : decode cX11_goToList 6 = .ok (.aload_n 0, 1) := by decide +kernel
theorem dX11_goToList_7 : decode cX11_goToList 7 = .ok (.getfield 253, 3) := by decide +kernel
theorem dX11_goToList_10 : decode cX11_goToList 10 = .ok (.lstore_n 2, 1) := by decide +kernel
theorem dX11_goToList_11 : decode cX11_goToList 11 = .ok (.aload_n 0, 1) := by decide +kernel
theorem dX11_goToList_12 : decode cX11_goToList 12 = .ok (.iconst 3, 1) := by decide +kernel
theorem dX11_goToList_13 : decode cX11_goToList 13 = .ok (.putfield 134, 3) := by decide +kernel
theorem dX11_goToList_16 : decode cX11_goToList 16 = .ok (.aload_n 0, 1) := by decide +kernel
theorem dX11_goToList_17 : decode cX11_goToList 17 = .ok (.iconst 2, 1) := by decide +kernel
theorem dX11_goToList_18 : decode cX11_goToList 18 = .ok (.invokevirtual 322, 3) := by decide +kernel
theorem dX11_goToList_21 : decode cX11_goToList 21 = .ok (.ifCond .eq 12, 3) := by decide +kernel
theorem dX11_goToList_24 : decode cX11_goToList 24 = .ok (.aload_n 0, 1) := by decide +kernel
theorem dX11_goToList_25 : decode cX11_goToList 25 = .ok (.invokevirtual 262, 3) := by decide +kernel
theorem dX11_goToList_28 : decode cX11_goToList 28 = .ok (.lload_n 2, 1) := by decide +kernel
theorem dX11_goToList_29 : decode cX11_goToList 29 = .ok (.lcmp, 1) := by decide +kernel
theorem dX11_goToList_30 : decode cX11_goToList 30 = .ok (.ifCond .eq 5, 3) := by decide +kernel
theorem dX11_goToList_33 : decode cX11_goToList 33 = .ok (.iconst 3, 1) := by decide +kernel
theorem dX11_goToList_34 : decode cX11_goToList 34 = .ok (.ireturn, 1) := by decide +kernel
theorem dX11_goToList_35 : decode cX11_goToList 35 = .ok (.aload_n 0, 1) := by decide +kernel
theorem dX11_goToList_36 : decode cX11_goToList 36 = .ok (.invokevirtual 368, 3) := by decide +kernel
theorem dX11_goToList_39 : decode cX11_goToList 39 = .ok (.aload_n 0, 1) := by decide +kernel
theorem dX11_goToList_40 : decode cX11_goToList 40 = .ok (.invokevirtual 316, 3) := by decide +kernel
theorem dX11_goToList_43 : decode cX11_goToList 43 = .ok (.ireturn, 1) := by decide +kernel
theorem dX11_saveCame_0 : decode cX11_saveCame 0 = .ok (.aload_n 0, 1) := by decide +kernel
theorem dX11_saveCame_1 : decode cX11_saveCame 1 = .ok (.aload_n 0, 1) := by decide +kernel
theorem dX11_saveCame_2 : decode cX11_saveCame 2 = .ok (.getfield 217, 3) := by decide +kernel
theorem dX11_saveCame_5 : decode cX11_saveCame 5 = .ok (.putfield 295, 3) := by decide +kernel
theorem dX11_saveCame_8 : decode cX11_saveCame 8 = .ok (.iconst 0, 1) := by decide +kernel
theorem dX11_saveCame_9 : decode cX11_saveCame 9 = .ok (.istore_n 1, 1) := by decide +kernel
theorem dX11_saveCame_10 : decode cX11_saveCame 10 = .ok (.iload_n 1, 1) := by decide +kernel
theorem dX11_saveCame_11 : decode cX11_saveCame 11 = .ok (.aload_n 0, 1) := by decide +kernel
theorem dX11_saveCame_12 : decode cX11_saveCame 12 = .ok (.getfield 217, 3) := by decide +kernel
theorem dX11_saveCame_15 : decode cX11_saveCame 15 = .ok (.if_icmp .ge 21, 3) := by decide +kernel
theorem dX11_saveCame_18 : decode cX11_saveCame 18 = .ok (.aload_n 0, 1) := by decide +kernel
theorem dX11_saveCame_19 : decode cX11_saveCame 19 = .ok (.getfield 51, 3) := by decide +kernel
theorem dX11_saveCame_22 : decode cX11_saveCame 22 = .ok (.iload_n 1, 1) := by decide +kernel
theorem dX11_saveCame_23 : decode cX11_saveCame 23 = .ok (.aload_n 0, 1) := by decide +kernel
theorem dX11_saveCame_24 : decode cX11_saveCame 24 = .ok (.getfield 23, 3) := by decide +kernel
theorem dX11_saveCame_27 : decode cX11_saveCame 27 = .ok (.iload_n 1, 1) := by decide +kernel
theorem dX11_saveCame_28 : decode cX11_saveCame 28 = .ok (.iaload, 1) := by decide +kernel
theorem dX11_saveCame_29 : decode cX11_saveCame 29 = .ok (.iastore, 1) := by decide +kernel
theorem dX11_saveCame_30 : decode cX11_saveCame 30 = .ok (.iinc 1 1, 3) := by decide +kernel
theorem dX11_saveCame_33 : decode cX11_saveCame 33 = .ok (.goto (-23), 3) := by decide +kernel
theorem dX11_saveCame_36 : decode cX11_saveCame 36 = .ok (.return_, 1) := by decide +kernel
theorem dX11_takeList_0 : decode cX11_takeList 0 = .ok (.aload_n 0, 1) := by decide +kernel
theorem dX11_takeList_1 : decode cX11_takeList 1 = .ok (.iconst 1, 1) := by decide +kernel
theorem dX11_takeList_2 : decode cX11_takeList 2 = .ok (.invokevirtual 322, 3) := by decide +kernel
theorem dX11_takeList_5 : decode cX11_takeList 5 = .ok (.istore_n 1, 1) := by decide +kernel
theorem dX11_takeList_6 : decode cX11_takeList 6 = .ok (.aload_n 0, 1) := by decide +kernel
theorem dX11_takeList_7 : decode cX11_takeList 7 = .ok (.getfield 247, 3) := by decide +kernel
theorem dX11_takeList_10 : decode cX11_takeList 10 = .ok (.istore_n 2, 1) := by decide +kernel
theorem dX11_takeList_11 : decode cX11_takeList 11 = .ok (.aload_n 0, 1) := by decide +kernel
theorem dX11_takeList_12 : decode cX11_takeList 12 = .ok (.getfield 253, 3) := by decide +kernel
theorem dX11_takeList_15 : decode cX11_takeList 15 = .ok (.lstore_n 3, 1) := by decide +kernel
theorem dX11_takeList_16 : decode cX11_takeList 16 = .ok (.aload_n 0, 1) := by decide +kernel
theorem dX11_takeList_17 : decode cX11_takeList 17 = .ok (.iconst 2, 1) := by decide +kernel
theorem dX11_takeList_18 : decode cX11_takeList 18 = .ok (.invokevirtual 356, 3) := by decide +kernel
theorem dX11_takeList_21 : decode cX11_takeList 21 = .ok (.aload_n 0, 1) := by decide +kernel
theorem dX11_takeList_22 : decode cX11_takeList 22 = .ok (.iconst 2, 1) := by decide +kernel
theorem dX11_takeList_23 : decode cX11_takeList 23 = .ok (.invokevirtual 359, 3) := by decide +kernel
theorem dX11_takeList_26 : decode cX11_takeList 26 = .ok (.aload_n 0, 1) := by decide +kernel
theorem dX11_takeList_27 : decode cX11_takeList 27 = .ok (.invokevirtual 331, 3) := by decide +kernel
theorem dX11_takeList_30 : decode cX11_takeList 30 = .ok (.aload_n 0, 1) := by decide +kernel
theorem dX11_takeList_31 : decode cX11_takeList 31 = .ok (.invokevirtual 262, 3) := by decide +kernel
theorem dX11_takeList_34 : decode cX11_takeList 34 = .ok (.lload_n 3, 1) := by decide +kernel
theorem dX11_takeList_35 : decode cX11_takeList 35 = .ok (.lcmp, 1) := by decide +kernel
theorem dX11_takeList_36 : decode cX11_takeList 36 = .ok (.ifCond .eq 9, 3) := by decide +kernel
theorem dX11_takeList_39 : decode cX11_takeList 39 = .ok (.aload_n 0, 1) := by decide +kernel
theorem dX11_takeList_40 : decode cX11_takeList 40 = .ok (.iconst 5, 1) := by decide +kernel
theorem dX11_takeList_41 : decode cX11_takeList 41 = .ok (.invokevirtual 307, 3) := by decide +kernel
theorem dX11_takeList_44 : decode cX11_takeList 44 = .ok (.ireturn, 1) := by decide +kernel
theorem dX11_takeList_45 : decode cX11_takeList 45 = .ok (.aload_n 0, 1) := by decide +kernel
theorem dX11_takeList_46 : decode cX11_takeList 46 = .ok (.aload_n 0, 1) := by decide +kernel
theorem dX11_takeList_47 : decode cX11_takeList 47 = .ok (.getfield 325, 3) := by decide +kernel
theorem dX11_takeList_50 : decode cX11_takeList 50 = .ok (.aload_n 0, 1) := by decide +kernel
theorem dX11_takeList_51 : decode cX11_takeList 51 = .ok (.getfield 328, 3) := by decide +kernel
theorem dX11_takeList_54 : decode cX11_takeList 54 = .ok (.invokevirtual 334, 3) := by decide +kernel
theorem dX11_takeList_57 : decode cX11_takeList 57 = .ok (.ifCond .ne 9, 3) := by decide +kernel
theorem dX11_takeList_60 : decode cX11_takeList 60 = .ok (.aload_n 0, 1) := by decide +kernel
theorem dX11_takeList_61 : decode cX11_takeList 61 = .ok (.iconst 2, 1) := by decide +kernel
theorem dX11_takeList_62 : decode cX11_takeList 62 = .ok (.invokevirtual 307, 3) := by decide +kernel
theorem dX11_takeList_65 : decode cX11_takeList 65 = .ok (.ireturn, 1) := by decide +kernel
theorem dX11_takeList_66 : decode cX11_takeList 66 = .ok (.aload_n 0, 1) := by decide +kernel
theorem dX11_takeList_67 : decode cX11_takeList 67 = .ok (.getfield 235, 3) := by decide +kernel
theorem dX11_takeList_70 : decode cX11_takeList 70 = .ok (.iload_n 2, 1) := by decide +kernel
theorem dX11_takeList_71 : decode cX11_takeList 71 = .ok (.if_icmp .eq 9, 3) := by decide +kernel
theorem dX11_takeList_74 : decode cX11_takeList 74 = .ok (.aload_n 0, 1) := by decide +kernel
theorem dX11_takeList_75 : decode cX11_takeList 75 = .ok (.iconst 3, 1) := by decide +kernel
theorem dX11_takeList_76 : decode cX11_takeList 76 = .ok (.invokevirtual 307, 3) := by decide +kernel
theorem dX11_takeList_79 : decode cX11_takeList 79 = .ok (.ireturn, 1) := by decide +kernel
theorem dX11_takeList_80 : decode cX11_takeList 80 = .ok (.aload_n 0, 1) := by decide +kernel
theorem dX11_takeList_81 : decode cX11_takeList 81 = .ok (.getfield 247, 3) := by decide +kernel
theorem dX11_takeList_84 : decode cX11_takeList 84 = .ok (.aload_n 0, 1) := by decide +kernel
theorem dX11_takeList_85 : decode cX11_takeList 85 = .ok (.getfield 350, 3) := by decide +kernel
theorem dX11_takeList_88 : decode cX11_takeList 88 = .ok (.if_icmp .ge 10, 3) := by decide +kernel
theorem dX11_takeList_91 : decode cX11_takeList 91 = .ok (.aload_n 0, 1) := by decide +kernel
theorem dX11_takeList_92 : decode cX11_takeList 92 = .ok (.bipush 10, 2) := by decide +kernel
theorem dX11_takeList_94 : decode cX11_takeList 94 = .ok (.invokevirtual 307, 3) := by decide +kernel
theorem dX11_takeList_97 : decode cX11_takeList 97 = .ok (.ireturn, 1) := by decide +kernel
theorem dX11_takeList_98 : decode cX11_takeList 98 = .ok (.aload_n 0, 1) := by decide +kernel
theorem dX11_takeList_99 : decode cX11_takeList 99 = .ok (.getfield 238, 3) := by decide +kernel
theorem dX11_takeList_102 : decode cX11_takeList 102 = .ok (.aload_n 0, 1) := by decide +kernel
theorem dX11_takeList_103 : decode cX11_takeList 103 = .ok (.getfield 301, 3) := by decide +kernel
theorem dX11_takeList_106 : decode cX11_takeList 106 = .ok (.i2l, 1) := by decide +kernel
theorem dX11_takeList_107 : decode cX11_takeList 107 = .ok (.lcmp, 1) := by decide +kernel
theorem dX11_takeList_108 : decode cX11_takeList 108 = .ok (.ifCond .gt 9, 3) := by decide +kernel
theorem dX11_takeList_111 : decode cX11_takeList 111 = .ok (.aload_n 0, 1) := by decide +kernel
theorem dX11_takeList_112 : decode cX11_takeList 112 = .ok (.iconst 4, 1) := by decide +kernel
theorem dX11_takeList_113 : decode cX11_takeList 113 = .ok (.invokevirtual 307, 3) := by decide +kernel
theorem dX11_takeList_116 : decode cX11_takeList 116 = .ok (.ireturn, 1) := by decide +kernel
theorem dX11_takeList_117 : decode cX11_takeList 117 = .ok (.aload_n 0, 1) := by decide +kernel
theorem dX11_takeList_118 : decode cX11_takeList 118 = .ok (.iconst 2, 1) := by decide +kernel
theorem dX11_takeList_119 : decode cX11_takeList 119 = .ok (.invokevirtual 362, 3) := by decide +kernel
theorem dX11_takeList_122 : decode cX11_takeList 122 = .ok (.aload_n 0, 1) := by decide +kernel
theorem dX11_takeList_123 : decode cX11_takeList 123 = .ok (.getfield 124, 3) := by decide +kernel
theorem dX11_takeList_126 : decode cX11_takeList 126 = .ok (.ifCond .eq 8, 3) := by decide +kernel
theorem dX11_takeList_129 : decode cX11_takeList 129 = .ok (.bipush (-3), 2) := by decide +kernel
theorem dX11_takeList_131 : decode cX11_takeList 131 = .ok (.goto 7, 3) := by decide +kernel
theorem dX11_takeList_134 : decode cX11_takeList 134 = .ok (.aload_n 0, 1) := by decide +kernel
theorem dX11_takeList_135 : decode cX11_takeList 135 = .ok (.invokevirtual 371, 3) := by decide +kernel
theorem dX11_takeList_138 : decode cX11_takeList 138 = .ok (.ireturn, 1) := by decide +kernel
theorem dX11_goToImages_0 : decode cX11_goToImages 0 = .ok (.aload_n 0, 1) := by decide +kernel
theorem dX11_goToImages_1 : decode cX11_goToImages 1 = .ok (.iconst 2, 1) := by decide +kernel
theorem dX11_goToImages_2 : decode cX11_goToImages 2 = .ok (.invokevirtual 322, 3) := by decide +kernel
theorem dX11_goToImages_5 : decode cX11_goToImages 5 = .ok (.istore_n 1, 1) := by decide +kernel
theorem dX11_goToImages_6 : decode cX11_goToImages 6 = .ok (.aload_n 0, 1) := by decide +kernel
theorem dX11_goToImages_7 : decode cX11_goToImages 7 = .ok (.getfield 253, 3) := by decide +kernel
theorem dX11_goToImages_10 : decode cX11_goToImages 10 = .ok (.lstore_n 2, 1) := by decide +kernel
theorem dX11_goToImages_11 : decode cX11_goToImages 11 = .ok (.aload_n 0, 1) := by decide +kernel
theorem dX11_goToImages_12 : decode cX11_goToImages 12 = .ok (.iconst 4, 1) := by decide +kernel
theorem dX11_goToImages_13 : decode cX11_goToImages 13 = .ok (.putfield 134, 3) := by decide +kernel
theorem dX11_goToImages_16 : decode cX11_goToImages 16 = .ok (.aload_n 0, 1) := by decide +kernel
theorem dX11_goToImages_17 : decode cX11_goToImages 17 = .ok (.iconst 3, 1) := by decide +kernel
theorem dX11_goToImages_18 : decode cX11_goToImages 18 = .ok (.invokevirtual 322, 3) := by decide +kernel
theorem dX11_goToImages_21 : decode cX11_goToImages 21 = .ok (.ifCond .eq 12, 3) := by decide +kernel
theorem dX11_goToImages_24 : decode cX11_goToImages 24 = .ok (.aload_n 0, 1) := by decide +kernel
theorem dX11_goToImages_25 : decode cX11_goToImages 25 = .ok (.invokevirtual 262, 3) := by decide +kernel
theorem dX11_goToImages_28 : decode cX11_goToImages 28 = .ok (.lload_n 2, 1) := by decide +kernel
theorem dX11_goToImages_29 : decode cX11_goToImages 29 = .ok (.lcmp, 1) := by decide +kernel
theorem dX11_goToImages_30 : decode cX11_goToImages 30 = .ok (.ifCond .eq 5, 3) := by decide +kernel
theorem dX11_goToImages_33 : decode cX11_goToImages 33 = .ok (.iconst 4, 1) := by decide +kernel
theorem dX11_goToImages_34 : decode cX11_goToImages 34 = .ok (.ireturn, 1) := by decide +kernel
theorem dX11_goToImages_35 : decode cX11_goToImages 35 = .ok (.aload_n 0, 1) := by decide +kernel
theorem dX11_goToImages_36 : decode cX11_goToImages 36 = .ok (.invokevirtual 368, 3) := by decide +kernel
theorem dX11_goToImages_39 : decode cX11_goToImages 39 = .ok (.aload_n 0, 1) := by decide +kernel
theorem dX11_goToImages_40 : decode cX11_goToImages 40 = .ok (.invokevirtual 319, 3) := by decide +kernel
theorem dX11_goToImages_43 : decode cX11_goToImages 43 = .ok (.ireturn, 1) := by decide +kernel
theorem dX11_takeImages_0 : decode cX11_takeImages 0 = .ok (.aload_n 0, 1) := by decide +kernel
theorem dX11_takeImages_1 : decode cX11_takeImages 1 = .ok (.iconst 2, 1) := by decide +kernel
theorem dX11_takeImages_2 : decode cX11_takeImages 2 = .ok (.invokevirtual 322, 3) := by decide +kernel
theorem dX11_takeImages_5 : decode cX11_takeImages 5 = .ok (.istore_n 1, 1) := by decide +kernel
theorem dX11_takeImages_6 : decode cX11_takeImages 6 = .ok (.aload_n 0, 1) := by decide +kernel
theorem dX11_takeImages_7 : decode cX11_takeImages 7 = .ok (.getfield 247, 3) := by decide +kernel
theorem dX11_takeImages_10 : decode cX11_takeImages 10 = .ok (.istore_n 2, 1) := by decide +kernel
theorem dX11_takeImages_11 : decode cX11_takeImages 11 = .ok (.aload_n 0, 1) := by decide +kernel
theorem dX11_takeImages_12 : decode cX11_takeImages 12 = .ok (.getfield 253, 3) := by decide +kernel
theorem dX11_takeImages_15 : decode cX11_takeImages 15 = .ok (.lstore_n 3, 1) := by decide +kernel
theorem dX11_takeImages_16 : decode cX11_takeImages 16 = .ok (.aload_n 0, 1) := by decide +kernel
theorem dX11_takeImages_17 : decode cX11_takeImages 17 = .ok (.iconst 3, 1) := by decide +kernel
theorem dX11_takeImages_18 : decode cX11_takeImages 18 = .ok (.invokevirtual 356, 3) := by decide +kernel
theorem dX11_takeImages_21 : decode cX11_takeImages 21 = .ok (.aload_n 0, 1) := by decide +kernel
theorem dX11_takeImages_22 : decode cX11_takeImages 22 = .ok (.invokevirtual 331, 3) := by decide +kernel
theorem dX11_takeImages_25 : decode cX11_takeImages 25 = .ok (.aload_n 0, 1) := by decide +kernel
theorem dX11_takeImages_26 : decode cX11_takeImages 26 = .ok (.invokevirtual 262, 3) := by decide +kernel
theorem dX11_takeImages_29 : decode cX11_takeImages 29 = .ok (.lload_n 3, 1) := by decide +kernel
theorem dX11_takeImages_30 : decode cX11_takeImages 30 = .ok (.lcmp, 1) := by decide +kernel
theorem dX11_takeImages_31 : decode cX11_takeImages 31 = .ok (.ifCond .eq 9, 3) := by decide +kernel
theorem dX11_takeImages_34 : decode cX11_takeImages 34 = .ok (.aload_n 0, 1) := by decide +kernel
theorem dX11_takeImages_35 : decode cX11_takeImages 35 = .ok (.iconst 5, 1) := by decide +kernel
theorem dX11_takeImages_36 : decode cX11_takeImages 36 = .ok (.invokevirtual 307, 3) := by decide +kernel
theorem dX11_takeImages_39 : decode cX11_takeImages 39 = .ok (.ireturn, 1) := by decide +kernel
theorem dX11_takeImages_40 : decode cX11_takeImages 40 = .ok (.aload_n 0, 1) := by decide +kernel
theorem dX11_takeImages_41 : decode cX11_takeImages 41 = .ok (.aload_n 0, 1) := by decide +kernel
theorem dX11_takeImages_42 : decode cX11_takeImages 42 = .ok (.getfield 325, 3) := by decide +kernel
theorem dX11_takeImages_45 : decode cX11_takeImages 45 = .ok (.aload_n 0, 1) := by decide +kernel
theorem dX11_takeImages_46 : decode cX11_takeImages 46 = .ok (.getfield 328, 3) := by decide +kernel
theorem dX11_takeImages_49 : decode cX11_takeImages 49 = .ok (.invokevirtual 334, 3) := by decide +kernel
theorem dX11_takeImages_52 : decode cX11_takeImages 52 = .ok (.ifCond .ne 9, 3) := by decide +kernel
theorem dX11_takeImages_55 : decode cX11_takeImages 55 = .ok (.aload_n 0, 1) := by decide +kernel
theorem dX11_takeImages_56 : decode cX11_takeImages 56 = .ok (.iconst 2, 1) := by decide +kernel
theorem dX11_takeImages_57 : decode cX11_takeImages 57 = .ok (.invokevirtual 307, 3) := by decide +kernel
theorem dX11_takeImages_60 : decode cX11_takeImages 60 = .ok (.ireturn, 1) := by decide +kernel
theorem dX11_takeImages_61 : decode cX11_takeImages 61 = .ok (.aload_n 0, 1) := by decide +kernel
theorem dX11_takeImages_62 : decode cX11_takeImages 62 = .ok (.getfield 235, 3) := by decide +kernel
theorem dX11_takeImages_65 : decode cX11_takeImages 65 = .ok (.iload_n 2, 1) := by decide +kernel
theorem dX11_takeImages_66 : decode cX11_takeImages 66 = .ok (.if_icmp .eq 9, 3) := by decide +kernel
theorem dX11_takeImages_69 : decode cX11_takeImages 69 = .ok (.aload_n 0, 1) := by decide +kernel
theorem dX11_takeImages_70 : decode cX11_takeImages 70 = .ok (.iconst 3, 1) := by decide +kernel
theorem dX11_takeImages_71 : decode cX11_takeImages 71 = .ok (.invokevirtual 307, 3) := by decide +kernel
theorem dX11_takeImages_74 : decode cX11_takeImages 74 = .ok (.ireturn, 1) := by decide +kernel
theorem dX11_takeImages_75 : decode cX11_takeImages 75 = .ok (.aload_n 0, 1) := by decide +kernel
theorem dX11_takeImages_76 : decode cX11_takeImages 76 = .ok (.getfield 238, 3) := by decide +kernel
theorem dX11_takeImages_79 : decode cX11_takeImages 79 = .ok (.aload_n 0, 1) := by decide +kernel
theorem dX11_takeImages_80 : decode cX11_takeImages 80 = .ok (.getfield 301, 3) := by decide +kernel
theorem dX11_takeImages_83 : decode cX11_takeImages 83 = .ok (.i2l, 1) := by decide +kernel
theorem dX11_takeImages_84 : decode cX11_takeImages 84 = .ok (.lcmp, 1) := by decide +kernel
theorem dX11_takeImages_85 : decode cX11_takeImages 85 = .ok (.ifCond .gt 9, 3) := by decide +kernel
theorem dX11_takeImages_88 : decode cX11_takeImages 88 = .ok (.aload_n 0, 1) := by decide +kernel
theorem dX11_takeImages_89 : decode cX11_takeImages 89 = .ok (.iconst 4, 1) := by decide +kernel
theorem dX11_takeImages_90 : decode cX11_takeImages 90 = .ok (.invokevirtual 307, 3) := by decide +kernel
theorem dX11_takeImages_93 : decode cX11_takeImages 93 = .ok (.ireturn, 1) := by decide +kernel
theorem dX11_takeImages_94 : decode cX11_takeImages 94 = .ok (.aload_n 0, 1) := by decide +kernel
theorem dX11_takeImages_95 : decode cX11_takeImages 95 = .ok (.iconst 3, 1) := by decide +kernel
theorem dX11_takeImages_96 : decode cX11_takeImages 96 = .ok (.invokevirtual 362, 3) := by decide +kernel
theorem dX11_takeImages_99 : decode cX11_takeImages 99 = .ok (.aload_n 0, 1) := by decide +kernel
theorem dX11_takeImages_100 : decode cX11_takeImages 100 = .ok (.getfield 124, 3) := by decide +kernel
theorem dX11_takeImages_103 : decode cX11_takeImages 103 = .ok (.ifCond .eq 8, 3) := by decide +kernel
theorem dX11_takeImages_106 : decode cX11_takeImages 106 = .ok (.bipush (-3), 2) := by decide +kernel
theorem dX11_takeImages_108 : decode cX11_takeImages 108 = .ok (.goto 7, 3) := by decide +kernel
theorem dX11_takeImages_111 : decode cX11_takeImages 111 = .ok (.aload_n 0, 1) := by decide +kernel
theorem dX11_takeImages_112 : decode cX11_takeImages 112 = .ok (.invokevirtual 374, 3) := by decide +kernel
theorem dX11_takeImages_115 : decode cX11_takeImages 115 = .ok (.ireturn, 1) := by decide +kernel
theorem dX11_goToPieces_0 : decode cX11_goToPieces 0 = .ok (.aload_n 0, 1) := by decide +kernel
theorem dX11_goToPieces_1 : decode cX11_goToPieces 1 = .ok (.iconst 3, 1) := by decide +kernel
theorem dX11_goToPieces_2 : decode cX11_goToPieces 2 = .ok (.invokevirtual 322, 3) := by decide +kernel
theorem dX11_goToPieces_5 : decode cX11_goToPieces 5 = .ok (.istore_n 1, 1) := by decide +kernel
theorem dX11_goToPieces_6 : decode cX11_goToPieces 6 = .ok (.aload_n 0, 1) := by decide +kernel
theorem dX11_goToPieces_7 : decode cX11_goToPieces 7 = .ok (.invokevirtual 99, 3) := by decide +kernel
theorem dX11_goToPieces_10 : decode cX11_goToPieces 10 = .ok (.aload_n 0, 1) := by decide +kernel
theorem dX11_goToPieces_11 : decode cX11_goToPieces 11 = .ok (.getfield 256, 3) := by decide +kernel
theorem dX11_goToPieces_14 : decode cX11_goToPieces 14 = .ok (.ifCond .eq 21, 3) := by decide +kernel
theorem dX11_goToPieces_17 : decode cX11_goToPieces 17 = .ok (.aload_n 0, 1) := by decide +kernel
theorem dX11_goToPieces_18 : decode cX11_goToPieces 18 = .ok (.getfield 32, 3) := by decide +kernel
theorem dX11_goToPieces_21 : decode cX11_goToPieces 21 = .ok (.aload_n 0, 1) := by decide +kernel
theorem dX11_goToPieces_22 : decode cX11_goToPieces 22 = .ok (.getfield 256, 3) := by decide +kernel
theorem dX11_goToPieces_25 : decode cX11_goToPieces 25 = .ok (.iconst 1, 1) := by decide +kernel
theorem dX11_goToPieces_26 : decode cX11_goToPieces 26 = .ok (.isub, 1) := by decide +kernel
theorem dX11_goToPieces_27 : decode cX11_goToPieces 27 = .ok (.iaload, 1) := by decide +kernel
theorem dX11_goToPieces_28 : decode cX11_goToPieces 28 = .ok (.aload_n 0, 1) := by decide +kernel
theorem dX11_goToPieces_29 : decode cX11_goToPieces 29 = .ok (.getfield 171, 3) := by decide +kernel
theorem dX11_goToPieces_32 : decode cX11_goToPieces 32 = .ok (.if_icmp .gt 10, 3) := by decide +kernel
theorem dX11_goToPieces_35 : decode cX11_goToPieces 35 = .ok (.aload_n 0, 1) := by decide +kernel
theorem dX11_goToPieces_36 : decode cX11_goToPieces 36 = .ok (.bipush 9, 2) := by decide +kernel
theorem dX11_goToPieces_38 : decode cX11_goToPieces 38 = .ok (.invokevirtual 307, 3) := by decide +kernel
theorem dX11_goToPieces_41 : decode cX11_goToPieces 41 = .ok (.ireturn, 1) := by decide +kernel
theorem dX11_goToPieces_42 : decode cX11_goToPieces 42 = .ok (.aload_n 0, 1) := by decide +kernel
theorem dX11_goToPieces_43 : decode cX11_goToPieces 43 = .ok (.aload_n 0, 1) := by decide +kernel
theorem dX11_goToPieces_44 : decode cX11_goToPieces 44 = .ok (.getfield 32, 3) := by decide +kernel
theorem dX11_goToPieces_47 : decode cX11_goToPieces 47 = .ok (.aload_n 0, 1) := by decide +kernel
theorem dX11_goToPieces_48 : decode cX11_goToPieces 48 = .ok (.getfield 256, 3) := by decide +kernel
theorem dX11_goToPieces_51 : decode cX11_goToPieces 51 = .ok (.iconst 1, 1) := by decide +kernel
theorem dX11_goToPieces_52 : decode cX11_goToPieces 52 = .ok (.isub, 1) := by decide +kernel
theorem dX11_goToPieces_53 : decode cX11_goToPieces 53 = .ok (.iaload, 1) := by decide +kernel
theorem dX11_goToPieces_54 : decode cX11_goToPieces 54 = .ok (.putfield 377, 3) := by decide +kernel
theorem dX11_goToPieces_57 : decode cX11_goToPieces 57 = .ok (.aload_n 0, 1) := by decide +kernel
theorem dX11_goToPieces_58 : decode cX11_goToPieces 58 = .ok (.aload_n 0, 1) := by decide +kernel
theorem dX11_goToPieces_59 : decode cX11_goToPieces 59 = .ok (.getfield 35, 3) := by decide +kernel
theorem dX11_goToPieces_62 : decode cX11_goToPieces 62 = .ok (.aload_n 0, 1) := by decide +kernel
theorem dX11_goToPieces_63 : decode cX11_goToPieces 63 = .ok (.getfield 256, 3) := by decide +kernel
theorem dX11_goToPieces_66 : decode cX11_goToPieces 66 = .ok (.iconst 1, 1) := by decide +kernel
theorem dX11_goToPieces_67 : decode cX11_goToPieces 67 = .ok (.isub, 1) := by decide +kernel
theorem dX11_goToPieces_68 : decode cX11_goToPieces 68 = .ok (.iaload, 1) := by decide +kernel
theorem dX11_goToPieces_69 : decode cX11_goToPieces 69 = .ok (.putfield 380, 3) := by decide +kernel
theorem dX11_goToPieces_72 : decode cX11_goToPieces 72 = .ok (.aload_n 0, 1) := by decide +kernel
theorem dX11_goToPieces_73 : decode cX11_goToPieces 73 = .ok (.aload_n 0, 1) := by decide +kernel
theorem dX11_goToPieces_74 : decode cX11_goToPieces 74 = .ok (.getfield 38, 3) := by decide +kernel
theorem dX11_goToPieces_77 : decode cX11_goToPieces 77 = .ok (.aload_n 0, 1) := by decide +kernel
theorem dX11_goToPieces_78 : decode cX11_goToPieces 78 = .ok (.getfield 256, 3) := by decide +kernel
theorem dX11_goToPieces_81 : decode cX11_goToPieces 81 = .ok (.iconst 1, 1) := by decide +kernel
theorem dX11_goToPieces_82 : decode cX11_goToPieces 82 = .ok (.isub, 1) := by decide +kernel
theorem dX11_goToPieces_83 : decode cX11_goToPieces 83 = .ok (.laload, 1) := by decide +kernel
theorem dX11_goToPieces_84 : decode cX11_goToPieces 84 = .ok (.ldc2_w 119, 3) := by decide +kernel
theorem dX11_goToPieces_87 : decode cX11_goToPieces 87 = .ok (.land, 1) := by decide +kernel
theorem dX11_goToPieces_88 : decode cX11_goToPieces 88 = .ok (.putfield 383, 3) := by decide +kernel
theorem dX11_goToPieces_91 : decode cX11_goToPieces 91 = .ok (.aload_n 0, 1) := by decide +kernel
theorem dX11_goToPieces_92 : decode cX11_goToPieces 92 = .ok (.getfield 183, 3) := by decide +kernel
theorem dX11_goToPieces_95 : decode cX11_goToPieces 95 = .ok (.aload_n 0, 1) := by decide +kernel
theorem dX11_goToPieces_96 : decode cX11_goToPieces 96 = .ok (.getfield 377, 3) := by decide +kernel
theorem dX11_goToPieces_99 : decode cX11_goToPieces 99 = .ok (.if_icmp .ne 30, 3) := by decide +kernel
theorem dX11_goToPieces_102 : decode cX11_goToPieces 102 = .ok (.aload_n 0, 1) := by decide +kernel
theorem dX11_goToPieces_103 : decode cX11_goToPieces 103 = .ok (.getfield 186, 3) := by decide +kernel
theorem dX11_goToPieces_106 : decode cX11_goToPieces 106 = .ok (.aload_n 0, 1) := by decide +kernel
theorem dX11_goToPieces_107 : decode cX11_goToPieces 107 = .ok (.getfield 380, 3) := by decide +kernel
theorem dX11_goToPieces_110 : decode cX11_goToPieces 110 = .ok (.if_icmp .ne 19, 3) := by decide +kernel
theorem dX11_goToPieces_113 : decode cX11_goToPieces 113 = .ok (.aload_n 0, 1) := by decide +kernel
theorem dX11_goToPieces_114 : decode cX11_goToPieces 114 = .ok (.getfield 189, 3) := by decide +kernel
theorem dX11_goToPieces_117 : decode cX11_goToPieces 117 = .ok (.aload_n 0, 1) := by decide +kernel
theorem dX11_goToPieces_118 : decode cX11_goToPieces 118 = .ok (.getfield 383, 3) := by decide +kernel
theorem dX11_goToPieces_121 : decode cX11_goToPieces 121 = .ok (.lcmp, 1) := by decide +kernel
theorem dX11_goToPieces_122 : decode cX11_goToPieces 122 = .ok (.ifCond .ne 7, 3) := by decide +kernel
theorem dX11_goToPieces_125 : decode cX11_goToPieces 125 = .ok (.iconst 1, 1) := by decide +kernel
theorem dX11_goToPieces_126 : decode cX11_goToPieces 126 = .ok (.goto 4, 3) := by decide +kernel
theorem dX11_goToPieces_129 : decode cX11_goToPieces 129 = .ok (.iconst 0, 1) := by decide +kernel
theorem dX11_goToPieces_130 : decode cX11_goToPieces 130 = .ok (.istore_n 2, 1) := by decide +kernel
theorem dX11_goToPieces_131 : decode cX11_goToPieces 131 = .ok (.iload_n 2, 1) := by decide +kernel
theorem dX11_goToPieces_132 : decode cX11_goToPieces 132 = .ok (.ifCond .eq 18, 3) := by decide +kernel
theorem dX11_goToPieces_135 : decode cX11_goToPieces 135 = .ok (.aload_n 0, 1) := by decide +kernel
theorem dX11_goToPieces_136 : decode cX11_goToPieces 136 = .ok (.getfield 180, 3) := by decide +kernel
theorem dX11_goToPieces_139 : decode cX11_goToPieces 139 = .ok (.iconst 2, 1) := by decide +kernel
theorem dX11_goToPieces_140 : decode cX11_goToPieces 140 = .ok (.if_icmp .ne 10, 3) := by decide +kernel
theorem dX11_goToPieces_143 : decode cX11_goToPieces 143 = .ok (.aload_n 0, 1) := by decide +kernel
theorem dX11_goToPieces_144 : decode cX11_goToPieces 144 = .ok (.iconst 0, 1) := by decide +kernel
theorem dX11_goToPieces_145 : decode cX11_goToPieces 145 = .ok (.putfield 134, 3) := by decide +kernel
theorem dX11_goToPieces_148 : decode cX11_goToPieces 148 = .ok (.iconst 0, 1) := by decide +kernel
theorem dX11_goToPieces_149 : decode cX11_goToPieces 149 = .ok (.ireturn, 1) := by decide +kernel
theorem dX11_goToPieces_150 : decode cX11_goToPieces 150 = .ok (.iload_n 2, 1) := by decide +kernel
theorem dX11_goToPieces_151 : decode cX11_goToPieces 151 = .ok (.ifCond .eq 76, 3) := by decide +kernel
theorem dX11_goToPieces_154 : decode cX11_goToPieces 154 = .ok (.aload_n 0, 1) := by decide +kernel
theorem dX11_goToPieces_155 : decode cX11_goToPieces 155 = .ok (.getfield 180, 3) := by decide +kernel
theorem dX11_goToPieces_158 : decode cX11_goToPieces 158 = .ok (.iconst 1, 1) := by decide +kernel
theorem dX11_goToPieces_159 : decode cX11_goToPieces 159 = .ok (.if_icmp .ne 68, 3) := by decide +kernel
theorem dX11_goToPieces_162 : decode cX11_goToPieces 162 = .ok (.aload_n 0, 1) := by decide +kernel
theorem dX11_goToPieces_163 : decode cX11_goToPieces 163 = .ok (.iconst 0, 1) := by decide +kernel
theorem dX11_goToPieces_164 : decode cX11_goToPieces 164 = .ok (.putfield 386, 3) := by decide +kernel
theorem dX11_goToPieces_167 : decode cX11_goToPieces 167 = .ok (.iconst 0, 1) := by decide +kernel
theorem dX11_goToPieces_168 : decode cX11_goToPieces 168 = .ok (.istore_n 3, 1) := by decide +kernel
theorem dX11_goToPieces_169 : decode cX11_goToPieces 169 = .ok (.iload_n 3, 1) := by decide +kernel
theorem dX11_goToPieces_170 : decode cX11_goToPieces 170 = .ok (.aload_n 0, 1) := by decide +kernel
theorem dX11_goToPieces_171 : decode cX11_goToPieces 171 = .ok (.getfield 380, 3) := by decide +kernel
theorem dX11_goToPieces_174 : decode cX11_goToPieces 174 = .ok (.if_icmp .ge 46, 3) := by decide +kernel
theorem dX11_goToPieces_177 : decode cX11_goToPieces 177 = .ok (.aload_n 0, 1) := by decide +kernel
theorem dX11_goToPieces_178 : decode cX11_goToPieces 178 = .ok (.aload_n 0, 1) := by decide +kernel
theorem dX11_goToPieces_179 : decode cX11_goToPieces 179 = .ok (.getfield 7, 3) := by decide +kernel
theorem dX11_goToPieces_182 : decode cX11_goToPieces 182 = .ok (.iconst 1, 1) := by decide +kernel
theorem dX11_goToPieces_183 : decode cX11_goToPieces 183 = .ok (.aload_n 0, 1) := by decide +kernel
theorem dX11_goToPieces_184 : decode cX11_goToPieces 184 = .ok (.getfield 168, 3) := by decide +kernel
theorem dX11_goToPieces_187 : decode cX11_goToPieces 187 = .ok (.isub, 1) := by decide +kernel
theorem dX11_goToPieces_188 : decode cX11_goToPieces 188 = .ok (.invokestatic 84, 3) := by decide +kernel
theorem dX11_goToPieces_191 : decode cX11_goToPieces 191 = .ok (.iload_n 3, 1) := by decide +kernel
theorem dX11_goToPieces_192 : decode cX11_goToPieces 192 = .ok (.iadd, 1) := by decide +kernel
theorem dX11_goToPieces_193 : decode cX11_goToPieces 193 = .ok (.iaload, 1) := by decide +kernel
theorem dX11_goToPieces_194 : decode cX11_goToPieces 194 = .ok (.sipush 255, 3) := by decide +kernel
theorem dX11_goToPieces_197 : decode cX11_goToPieces 197 = .ok (.if_icmp .eq 10, 3) := by decide +kernel
theorem dX11_goToPieces_200 : decode cX11_goToPieces 200 = .ok (.iload_n 3, 1) := by decide +kernel
theorem dX11_goToPieces_201 : decode cX11_goToPieces 201 = .ok (.bipush 64, 2) := by decide +kernel
theorem dX11_goToPieces_203 : decode cX11_goToPieces 203 = .ok (.idiv, 1) := by decide +kernel
theorem dX11_goToPieces_204 : decode cX11_goToPieces 204 = .ok (.goto 7, 3) := by decide +kernel
theorem dX11_goToPieces_207 : decode cX11_goToPieces 207 = .ok (.aload_n 0, 1) := by decide +kernel
theorem dX11_goToPieces_208 : decode cX11_goToPieces 208 = .ok (.getfield 386, 3) := by decide +kernel
theorem dX11_goToPieces_211 : decode cX11_goToPieces 211 = .ok (.putfield 386, 3) := by decide +kernel
theorem dX11_goToPieces_214 : decode cX11_goToPieces 214 = .ok (.iinc 3 1, 3) := by decide +kernel
theorem dX11_goToPieces_217 : decode cX11_goToPieces 217 = .ok (.goto (-48), 3) := by decide +kernel
theorem dX11_goToPieces_220 : decode cX11_goToPieces 220 = .ok (.aload_n 0, 1) := by decide +kernel
theorem dX11_goToPieces_221 : decode cX11_goToPieces 221 = .ok (.iconst 5, 1) := by decide +kernel
theorem dX11_goToPieces_222 : decode cX11_goToPieces 222 = .ok (.putfield 134, 3) := by decide +kernel
theorem dX11_goToPieces_225 : decode cX11_goToPieces 225 = .ok (.iconst 5, 1) := by decide +kernel
theorem dX11_goToPieces_226 : decode cX11_goToPieces 226 = .ok (.ireturn, 1) := by decide +kernel
theorem dX11_goToPieces_227 : decode cX11_goToPieces 227 = .ok (.iconst 0, 1) := by decide +kernel
theorem dX11_goToPieces_228 : decode cX11_goToPieces 228 = .ok (.istore_n 3, 1) := by decide +kernel
theorem dX11_goToPieces_229 : decode cX11_goToPieces 229 = .ok (.iload_n 3, 1) := by decide +kernel
theorem dX11_goToPieces_230 : decode cX11_goToPieces 230 = .ok (.bipush 8, 2) := by decide +kernel
theorem dX11_goToPieces_232 : decode cX11_goToPieces 232 = .ok (.if_icmp .ge 28, 3) := by decide +kernel
theorem dX11_goToPieces_235 : decode cX11_goToPieces 235 = .ok (.aload_n 0, 1) := by decide +kernel
theorem dX11_goToPieces_236 : decode cX11_goToPieces 236 = .ok (.iconst 1, 1) := by decide +kernel
theorem dX11_goToPieces_237 : decode cX11_goToPieces 237 = .ok (.aload_n 0, 1) := by decide +kernel
theorem dX11_goToPieces_238 : decode cX11_goToPieces 238 = .ok (.getfield 168, 3) := by decide +kernel
theorem dX11_goToPieces_241 : decode cX11_goToPieces 241 = .ok (.isub, 1) := by decide +kernel
theorem dX11_goToPieces_242 : decode cX11_goToPieces 242 = .ok (.invokestatic 84, 3) := by decide +kernel
theorem dX11_goToPieces_245 : decode cX11_goToPieces 245 = .ok (.sipush 128, 3) := by decide +kernel
theorem dX11_goToPieces_248 : decode cX11_goToPieces 248 = .ok (.idiv, 1) := by decide +kernel
theorem dX11_goToPieces_249 : decode cX11_goToPieces 249 = .ok (.iload_n 3, 1) := by decide +kernel
theorem dX11_goToPieces_250 : decode cX11_goToPieces 250 = .ok (.iadd, 1) := by decide +kernel
theorem dX11_goToPieces_251 : decode cX11_goToPieces 251 = .ok (.invokevirtual 206, 3) := by decide +kernel
theorem dX11_goToPieces_254 : decode cX11_goToPieces 254 = .ok (.iinc 3 1, 3) := by decide +kernel
theorem dX11_goToPieces_257 : decode cX11_goToPieces 257 = .ok (.goto (-28), 3) := by decide +kernel
theorem dX11_goToPieces_260 : decode cX11_goToPieces 260 = .ok (.aload_n 0, 1) := by decide +kernel
theorem dX11_goToPieces_261 : decode cX11_goToPieces 261 = .ok (.getfield 124, 3) := by decide +kernel
theorem dX11_goToPieces_264 : decode cX11_goToPieces 264 = .ok (.ifCond .ne 32, 3) := by decide +kernel
theorem dX11_goToPieces_267 : decode cX11_goToPieces 267 = .ok (.aload_n 0, 1) := by decide +kernel
theorem dX11_goToPieces_268 : decode cX11_goToPieces 268 = .ok (.aload_n 0, 1) := by decide +kernel
theorem dX11_goToPieces_269 : decode cX11_goToPieces 269 = .ok (.getfield 377, 3) := by decide +kernel
theorem dX11_goToPieces_272 : decode cX11_goToPieces 272 = .ok (.putfield 183, 3) := by decide +kernel
theorem dX11_goToPieces_275 : decode cX11_goToPieces 275 = .ok (.aload_n 0, 1) := by decide +kernel
theorem dX11_goToPieces_276 : decode cX11_goToPieces 276 = .ok (.aload_n 0, 1) := by decide +kernel
theorem dX11_goToPieces_277 : decode cX11_goToPieces 277 = .ok (.getfield 380, 3) := by decide +kernel
theorem dX11_goToPieces_280 : decode cX11_goToPieces 280 = .ok (.putfield 186, 3) := by decide +kernel
theorem dX11_goToPieces_283 : decode cX11_goToPieces 283 = .ok (.aload_n 0, 1) := by decide +kernel
theorem dX11_goToPieces_284 : decode cX11_goToPieces 284 = .ok (.aload_n 0, 1) := by decide +kernel
theorem dX11_goToPieces_285 : decode cX11_goToPieces 285 = .ok (.getfield 383, 3) := by decide +kernel
theorem dX11_goToPieces_288 : decode cX11_goToPieces 288 = .ok (.putfield 189, 3) := by decide +kernel
theorem dX11_goToPieces_291 : decode cX11_goToPieces 291 = .ok (.aload_n 0, 1) := by decide +kernel
theorem dX11_goToPieces_292 : decode cX11_goToPieces 292 = .ok (.iconst 1, 1) := by decide +kernel
theorem dX11_goToPieces_293 : decode cX11_goToPieces 293 = .ok (.invokevirtual 389, 3) := by decide +kernel
theorem dX11_goToPieces_296 : decode cX11_goToPieces 296 = .ok (.aload_n 0, 1) := by decide +kernel
theorem dX11_goToPieces_297 : decode cX11_goToPieces 297 = .ok (.getfield 124, 3) := by decide +kernel
theorem dX11_goToPieces_300 : decode cX11_goToPieces 300 = .ok (.ifCond .eq 6, 3) := by decide +kernel
theorem dX11_goToPieces_303 : decode cX11_goToPieces 303 = .ok (.bipush (-3), 2) := by decide +kernel
theorem dX11_goToPieces_305 : decode cX11_goToPieces 305 = .ok (.ireturn, 1) := by decide +kernel
theorem dX11_goToPieces_306 : decode cX11_goToPieces 306 = .ok (.aload_n 0, 1) := by decide +kernel
theorem dX11_goToPieces_307 : decode cX11_goToPieces 307 = .ok (.iconst 0, 1) := by decide +kernel
theorem dX11_goToPieces_308 : decode cX11_goToPieces 308 = .ok (.putfield 386, 3) := by decide +kernel
theorem dX11_goToPieces_311 : decode cX11_goToPieces 311 = .ok (.aload_n 0, 1) := by decide +kernel
theorem dX11_goToPieces_312 : decode cX11_goToPieces 312 = .ok (.iconst 5, 1) := by decide +kernel
theorem dX11_goToPieces_313 : decode cX11_goToPieces 313 = .ok (.putfield 134, 3) := by decide +kernel
theorem dX11_goToPieces_316 : decode cX11_goToPieces 316 = .ok (.iconst 5, 1) := by decide +kernel
theorem dX11_goToPieces_317 : decode cX11_goToPieces 317 = .ok (.ireturn, 1) := by decide +kernel
theorem dX11_takePiece_0 : decode cX11_takePiece 0 = .ok (.aload_n 0, 1) := by decide +kernel
theorem dX11_takePiece_1 : decode cX11_takePiece 1 = .ok (.getfield 380, 3) := by decide +kernel
theorem dX11_takePiece_4 : decode cX11_takePiece 4 = .ok (.bipush 64, 2) := by decide +kernel
theorem dX11_takePiece_6 : decode cX11_takePiece 6 = .ok (.aload_n 0, 1) := by decide +kernel
theorem dX11_takePiece_7 : decode cX11_takePiece 7 = .ok (.getfield 386, 3) := by decide +kernel
theorem dX11_takePiece_10 : decode cX11_takePiece 10 = .ok (.imul, 1) := by decide +kernel
theorem dX11_takePiece_11 : decode cX11_takePiece 11 = .ok (.isub, 1) := by decide +kernel
theorem dX11_takePiece_12 : decode cX11_takePiece 12 = .ok (.istore_n 2, 1) := by decide +kernel
theorem dX11_takePiece_13 : decode cX11_takePiece 13 = .ok (.iload_n 1, 1) := by decide +kernel
theorem dX11_takePiece_14 : decode cX11_takePiece 14 = .ok (.iload_n 2, 1) := by decide +kernel
theorem dX11_takePiece_15 : decode cX11_takePiece 15 = .ok (.bipush 64, 2) := by decide +kernel
theorem dX11_takePiece_17 : decode cX11_takePiece 17 = .ok (.if_icmp .ge 7, 3) := by decide +kernel
theorem dX11_takePiece_20 : decode cX11_takePiece 20 = .ok (.iload_n 2, 1) := by decide +kernel
theorem dX11_takePiece_21 : decode cX11_takePiece 21 = .ok (.goto 5, 3) := by decide +kernel
theorem dX11_takePiece_24 : decode cX11_takePiece 24 = .ok (.bipush 64, 2) := by decide +kernel
theorem dX11_takePiece_26 : decode cX11_takePiece 26 = .ok (.if_icmp .eq 10, 3) := by decide +kernel
theorem dX11_takePiece_29 : decode cX11_takePiece 29 = .ok (.aload_n 0, 1) := by decide +kernel
theorem dX11_takePiece_30 : decode cX11_takePiece 30 = .ok (.bipush 7, 2) := by decide +kernel
theorem dX11_takePiece_32 : decode cX11_takePiece 32 = .ok (.invokevirtual 307, 3) := by decide +kernel
theorem dX11_takePiece_35 : decode cX11_takePiece 35 = .ok (.ireturn, 1) := by decide +kernel
theorem dX11_takePiece_36 : decode cX11_takePiece 36 = .ok (.aload_n 0, 1) := by decide +kernel
theorem dX11_takePiece_37 : decode cX11_takePiece 37 = .ok (.invokevirtual 99, 3) := by decide +kernel
theorem dX11_takePiece_40 : decode cX11_takePiece 40 = .ok (.iconst 1, 1) := by decide +kernel
theorem dX11_takePiece_41 : decode cX11_takePiece 41 = .ok (.aload_n 0, 1) := by decide +kernel
theorem dX11_takePiece_42 : decode cX11_takePiece 42 = .ok (.getfield 168, 3) := by decide +kernel
theorem dX11_takePiece_45 : decode cX11_takePiece 45 = .ok (.isub, 1) := by decide +kernel
theorem dX11_takePiece_46 : decode cX11_takePiece 46 = .ok (.invokestatic 84, 3) := by decide +kernel
theorem dX11_takePiece_49 : decode cX11_takePiece 49 = .ok (.bipush 64, 2) := by decide +kernel
theorem dX11_takePiece_51 : decode cX11_takePiece 51 = .ok (.aload_n 0, 1) := by decide +kernel
theorem dX11_takePiece_52 : decode cX11_takePiece 52 = .ok (.getfield 386, 3) := by decide +kernel
theorem dX11_takePiece_55 : decode cX11_takePiece 55 = .ok (.imul, 1) := by decide +kernel
theorem dX11_takePiece_56 : decode cX11_takePiece 56 = .ok (.iadd, 1) := by decide +kernel
theorem dX11_takePiece_57 : decode cX11_takePiece 57 = .ok (.istore_n 3, 1) := by decide +kernel
theorem dX11_takePiece_58 : decode cX11_takePiece 58 = .ok (.iconst 0, 1) := by decide +kernel
theorem dX11_takePiece_59 : decode cX11_takePiece 59 = .ok (.istore 4, 2) := by decide +kernel
theorem dX11_takePiece_61 : decode cX11_takePiece 61 = .ok (.iload 4, 2) := by decide +kernel
theorem dX11_takePiece_63 : decode cX11_takePiece 63 = .ok (.iload_n 1, 1) := by decide +kernel
theorem dX11_takePiece_64 : decode cX11_takePiece 64 = .ok (.if_icmp .ge 65, 3) := by decide +kernel
theorem dX11_takePiece_67 : decode cX11_takePiece 67 = .ok (.iconst 0, 1) := by decide +kernel
theorem dX11_takePiece_68 : decode cX11_takePiece 68 = .ok (.istore 5, 2) := by decide +kernel
theorem dX11_takePiece_70 : decode cX11_takePiece 70 = .ok (.iload 5, 2) := by decide +kernel
theorem dX11_takePiece_72 : decode cX11_takePiece 72 = .ok (.bipush 32, 2) := by decide +kernel
theorem dX11_takePiece_74 : decode cX11_takePiece 74 = .ok (.if_icmp .ge 41, 3) := by decide +kernel
theorem dX11_takePiece_77 : decode cX11_takePiece 77 = .ok (.aload_n 0, 1) := by decide +kernel
theorem dX11_takePiece_78 : decode cX11_takePiece 78 = .ok (.getfield 20, 3) := by decide +kernel
theorem dX11_takePiece_81 : decode cX11_takePiece 81 = .ok (.iload 5, 2) := by decide +kernel
theorem dX11_takePiece_83 : decode cX11_takePiece 83 = .ok (.iload 4, 2) := by decide +kernel
theorem dX11_takePiece_85 : decode cX11_takePiece 85 = .ok (.iload 5, 2) := by decide +kernel
theorem dX11_takePiece_87 : decode cX11_takePiece 87 = .ok (.iadd, 1) := by decide +kernel
theorem dX11_takePiece_88 : decode cX11_takePiece 88 = .ok (.iload_n 1, 1) := by decide +kernel
theorem dX11_takePiece_89 : decode cX11_takePiece 89 = .ok (.if_icmp .ge 16, 3) := by decide +kernel
theorem dX11_takePiece_92 : decode cX11_takePiece 92 = .ok (.aload_n 0, 1) := by decide +kernel
theorem dX11_takePiece_93 : decode cX11_takePiece 93 = .ok (.getfield 17, 3) := by decide +kernel
theorem dX11_takePiece_96 : decode cX11_takePiece 96 = .ok (.iload 4, 2) := by decide +kernel
theorem dX11_takePiece_98 : decode cX11_takePiece 98 = .ok (.iload 5, 2) := by decide +kernel
theorem dX11_takePiece_100 : decode cX11_takePiece 100 = .ok (.iadd, 1) := by decide +kernel
theorem dX11_takePiece_101 : decode cX11_takePiece 101 = .ok (.iaload, 1) := by decide +kernel
theorem dX11_takePiece_102 : decode cX11_takePiece 102 = .ok (.goto 6, 3) := by decide +kernel
theorem dX11_takePiece_105 : decode cX11_takePiece 105 = .ok (.sipush 255, 3) := by decide +kernel
theorem dX11_takePiece_108 : decode cX11_takePiece 108 = .ok (.iastore, 1) := by decide +kernel
theorem dX11_takePiece_109 : decode cX11_takePiece 109 = .ok (.iinc 5 1, 3) := by decide +kernel
theorem dX11_takePiece_112 : decode cX11_takePiece 112 = .ok (.goto (-42), 3) := by decide +kernel
theorem dX11_takePiece_115 : decode cX11_takePiece 115 = .ok (.aload_n 0, 1) := by decide +kernel
theorem dX11_takePiece_116 : decode cX11_takePiece 116 = .ok (.iload_n 3, 1) := by decide +kernel
theorem dX11_takePiece_117 : decode cX11_takePiece 117 = .ok (.iload 4, 2) := by decide +kernel
theorem dX11_takePiece_119 : decode cX11_takePiece 119 = .ok (.iadd, 1) := by decide +kernel
theorem dX11_takePiece_120 : decode cX11_takePiece 120 = .ok (.invokevirtual 209, 3) := by decide +kernel
theorem dX11_takePiece_123 : decode cX11_takePiece 123 = .ok (.iinc 4 32, 3) := by decide +kernel
theorem dX11_takePiece_126 : decode cX11_takePiece 126 = .ok (.goto (-65), 3) := by decide +kernel
theorem dX11_takePiece_129 : decode cX11_takePiece 129 = .ok (.aload_n 0, 1) := by decide +kernel
theorem dX11_takePiece_130 : decode cX11_takePiece 130 = .ok (.getfield 124, 3) := by decide +kernel
theorem dX11_takePiece_133 : decode cX11_takePiece 133 = .ok (.ifCond .eq 6, 3) := by decide +kernel
theorem dX11_takePiece_136 : decode cX11_takePiece 136 = .ok (.bipush (-3), 2) := by decide +kernel
theorem dX11_takePiece_138 : decode cX11_takePiece 138 = .ok (.ireturn, 1) := by decide +kernel
theorem dX11_takePiece_139 : decode cX11_takePiece 139 = .ok (.iload_n 2, 1) := by decide +kernel
theorem dX11_takePiece_140 : decode cX11_takePiece 140 = .ok (.bipush 64, 2) := by decide +kernel
theorem dX11_takePiece_142 : decode cX11_takePiece 142 = .ok (.if_icmp .le 15, 3) := by decide +kernel
theorem dX11_takePiece_145 : decode cX11_takePiece 145 = .ok (.aload_n 0, 1) := by decide +kernel
theorem dX11_takePiece_146 : decode cX11_takePiece 146 = .ok (.dup, 1) := by decide +kernel
theorem dX11_takePiece_147 : decode cX11_takePiece 147 = .ok (.getfield 386, 3) := by decide +kernel
theorem dX11_takePiece_150 : decode cX11_takePiece 150 = .ok (.iconst 1, 1) := by decide +kernel
theorem dX11_takePiece_151 : decode cX11_takePiece 151 = .ok (.iadd, 1) := by decide +kernel
theorem dX11_takePiece_152 : decode cX11_takePiece 152 = .ok (.putfield 386, 3) := by decide +kernel
theorem dX11_takePiece_155 : decode cX11_takePiece 155 = .ok (.iconst 5, 1) := by decide +kernel
theorem dX11_takePiece_156 : decode cX11_takePiece 156 = .ok (.ireturn, 1) := by decide +kernel
theorem dX11_takePiece_157 : decode cX11_takePiece 157 = .ok (.aload_n 0, 1) := by decide +kernel
theorem dX11_takePiece_158 : decode cX11_takePiece 158 = .ok (.iconst 1, 1) := by decide +kernel
theorem dX11_takePiece_159 : decode cX11_takePiece 159 = .ok (.aload_n 0, 1) := by decide +kernel
theorem dX11_takePiece_160 : decode cX11_takePiece 160 = .ok (.getfield 168, 3) := by decide +kernel
theorem dX11_takePiece_163 : decode cX11_takePiece 163 = .ok (.isub, 1) := by decide +kernel
theorem dX11_takePiece_164 : decode cX11_takePiece 164 = .ok (.aload_n 0, 1) := by decide +kernel
theorem dX11_takePiece_165 : decode cX11_takePiece 165 = .ok (.getfield 380, 3) := by decide +kernel
theorem dX11_takePiece_168 : decode cX11_takePiece 168 = .ok (.invokevirtual 88, 3) := by decide +kernel
theorem dX11_takePiece_171 : decode cX11_takePiece 171 = .ok (.aload_n 0, 1) := by decide +kernel
theorem dX11_takePiece_172 : decode cX11_takePiece 172 = .ok (.getfield 383, 3) := by decide +kernel
theorem dX11_takePiece_175 : decode cX11_takePiece 175 = .ok (.lcmp, 1) := by decide +kernel
theorem dX11_takePiece_176 : decode cX11_takePiece 176 = .ok (.ifCond .ne 7, 3) := by decide +kernel
theorem dX11_takePiece_179 : decode cX11_takePiece 179 = .ok (.iconst 1, 1) := by decide +kernel
theorem dX11_takePiece_180 : decode cX11_takePiece 180 = .ok (.goto 4, 3) := by decide +kernel
theorem dX11_takePiece_183 : decode cX11_takePiece 183 = .ok (.iconst 0, 1) := by decide +kernel
theorem dX11_takePiece_184 : decode cX11_takePiece 184 = .ok (.istore 4, 2) := by decide +kernel
theorem dX11_takePiece_186 : decode cX11_takePiece 186 = .ok (.aload_n 0, 1) := by decide +kernel
theorem dX11_takePiece_187 : decode cX11_takePiece 187 = .ok (.iload 4, 2) := by decide +kernel
theorem dX11_takePiece_189 : decode cX11_takePiece 189 = .ok (.ifCond .eq 7, 3) := by decide +kernel
theorem dX11_takePiece_192 : decode cX11_takePiece 192 = .ok (.iconst 2, 1) := by decide +kernel
theorem dX11_takePiece_193 : decode cX11_takePiece 193 = .ok (.goto 4, 3) := by decide +kernel
theorem dX11_takePiece_196 : decode cX11_takePiece 196 = .ok (.iconst 0, 1) := by decide +kernel
theorem dX11_takePiece_197 : decode cX11_takePiece 197 = .ok (.invokevirtual 389, 3) := by decide +kernel
theorem dX11_takePiece_200 : decode cX11_takePiece 200 = .ok (.aload_n 0, 1) := by decide +kernel
theorem dX11_takePiece_201 : decode cX11_takePiece 201 = .ok (.getfield 124, 3) := by decide +kernel
theorem dX11_takePiece_204 : decode cX11_takePiece 204 = .ok (.ifCond .eq 6, 3) := by decide +kernel
theorem dX11_takePiece_207 : decode cX11_takePiece 207 = .ok (.bipush (-3), 2) := by decide +kernel
theorem dX11_takePiece_209 : decode cX11_takePiece 209 = .ok (.ireturn, 1) := by decide +kernel
theorem dX11_takePiece_210 : decode cX11_takePiece 210 = .ok (.aload_n 0, 1) := by decide +kernel
theorem dX11_takePiece_211 : decode cX11_takePiece 211 = .ok (.iconst 0, 1) := by decide +kernel
theorem dX11_takePiece_212 : decode cX11_takePiece 212 = .ok (.putfield 134, 3) := by decide +kernel
theorem dX11_takePiece_215 : decode cX11_takePiece 215 = .ok (.iload 4, 2) := by decide +kernel
theorem dX11_takePiece_217 : decode cX11_takePiece 217 = .ok (.ifCond .eq 7, 3) := by decide +kernel
theorem dX11_takePiece_220 : decode cX11_takePiece 220 = .ok (.iconst 0, 1) := by decide +kernel
theorem dX11_takePiece_221 : decode cX11_takePiece 221 = .ok (.goto 9, 3) := by decide +kernel
theorem dX11_takePiece_224 : decode cX11_takePiece 224 = .ok (.aload_n 0, 1) := by decide +kernel
theorem dX11_takePiece_225 : decode cX11_takePiece 225 = .ok (.bipush 8, 2) := by decide +kernel
theorem dX11_takePiece_227 : decode cX11_takePiece 227 = .ok (.invokevirtual 307, 3) := by decide +kernel
theorem dX11_takePiece_230 : decode cX11_takePiece 230 = .ok (.ireturn, 1) := by decide +kernel
theorem dX11_awaits_0 : decode cX11_awaits 0 = .ok (.iload_n 1, 1) := by decide +kernel
theorem dX11_awaits_1 : decode cX11_awaits 1 = .ok (.ifCond .lt 8, 3) := by decide +kernel
theorem dX11_awaits_4 : decode cX11_awaits 4 = .ok (.iload_n 1, 1) := by decide +kernel
theorem dX11_awaits_5 : decode cX11_awaits 5 = .ok (.iconst 2, 1) := by decide +kernel
theorem dX11_awaits_6 : decode cX11_awaits 6 = .ok (.if_icmp .le 5, 3) := by decide +kernel
theorem dX11_awaits_9 : decode cX11_awaits 9 = .ok (.iconst (-1), 1) := by decide +kernel
theorem dX11_awaits_10 : decode cX11_awaits 10 = .ok (.ireturn, 1) := by decide +kernel
theorem dX11_awaits_11 : decode cX11_awaits 11 = .ok (.iload_n 1, 1) := by decide +kernel
theorem dX11_awaits_12 : decode cX11_awaits 12 = .ok (.ifCond .ne 8, 3) := by decide +kernel
theorem dX11_awaits_15 : decode cX11_awaits 15 = .ok (.aload_n 0, 1) := by decide +kernel
theorem dX11_awaits_16 : decode cX11_awaits 16 = .ok (.getfield 134, 3) := by decide +kernel
theorem dX11_awaits_19 : decode cX11_awaits 19 = .ok (.ireturn, 1) := by decide +kernel
theorem dX11_awaits_20 : decode cX11_awaits 20 = .ok (.iload_n 1, 1) := by decide +kernel
theorem dX11_awaits_21 : decode cX11_awaits 21 = .ok (.iconst 2, 1) := by decide +kernel
theorem dX11_awaits_22 : decode cX11_awaits 22 = .ok (.if_icmp .ne 20, 3) := by decide +kernel
theorem dX11_awaits_25 : decode cX11_awaits 25 = .ok (.aload_n 0, 1) := by decide +kernel
theorem dX11_awaits_26 : decode cX11_awaits 26 = .ok (.getfield 134, 3) := by decide +kernel
theorem dX11_awaits_29 : decode cX11_awaits 29 = .ok (.iconst 5, 1) := by decide +kernel
theorem dX11_awaits_30 : decode cX11_awaits 30 = .ok (.if_icmp .ne 10, 3) := by decide +kernel
theorem dX11_awaits_33 : decode cX11_awaits 33 = .ok (.aload_n 0, 1) := by decide +kernel
theorem dX11_awaits_34 : decode cX11_awaits 34 = .ok (.getfield 386, 3) := by decide +kernel
theorem dX11_awaits_37 : decode cX11_awaits 37 = .ok (.goto 4, 3) := by decide +kernel
theorem dX11_awaits_40 : decode cX11_awaits 40 = .ok (.iconst 0, 1) := by decide +kernel
theorem dX11_awaits_41 : decode cX11_awaits 41 = .ok (.ireturn, 1) := by decide +kernel
theorem dX11_awaits_42 : decode cX11_awaits 42 = .ok (.aload_n 0, 1) := by decide +kernel
theorem dX11_awaits_43 : decode cX11_awaits 43 = .ok (.getfield 134, 3) := by decide +kernel
theorem dX11_awaits_46 : decode cX11_awaits 46 = .ok (.iconst 1, 1) := by decide +kernel
theorem dX11_awaits_47 : decode cX11_awaits 47 = .ok (.if_icmp .ne 16, 3) := by decide +kernel
theorem dX11_awaits_50 : decode cX11_awaits 50 = .ok (.aload_n 0, 1) := by decide +kernel
theorem dX11_awaits_51 : decode cX11_awaits 51 = .ok (.iconst 0, 1) := by decide +kernel
theorem dX11_awaits_52 : decode cX11_awaits 52 = .ok (.invokevirtual 322, 3) := by decide +kernel
theorem dX11_awaits_55 : decode cX11_awaits 55 = .ok (.istore_n 2, 1) := by decide +kernel
theorem dX11_awaits_56 : decode cX11_awaits 56 = .ok (.aload_n 0, 1) := by decide +kernel
theorem dX11_awaits_57 : decode cX11_awaits 57 = .ok (.getfield 235, 3) := by decide +kernel
theorem dX11_awaits_60 : decode cX11_awaits 60 = .ok (.iconst 1, 1) := by decide +kernel
end
section
theorem dX11_awaits_61 : decode cX11_awaits 61 = .ok (.iadd, 1) := by decide +kernel
theorem dX11_awaits_62 : decode cX11_awaits 62 = .ok (.ireturn, 1) := by decide +kernel
theorem dX11_awaits_63 : decode cX11_awaits 63 = .ok (.aload_n 0, 1) := by decide +kernel
theorem dX11_awaits_64 : decode cX11_awaits 64 = .ok (.getfield 134, 3) := by decide +kernel
theorem dX11_awaits_67 : decode cX11_awaits 67 = .ok (.iconst 3, 1) := by decide +kernel
theorem dX11_awaits_68 : decode cX11_awaits 68 = .ok (.if_icmp .eq 11, 3) := by decide +kernel
theorem dX11_awaits_71 : decode cX11_awaits 71 = .ok (.aload_n 0, 1) := by decide +kernel
theorem dX11_awaits_72 : decode cX11_awaits 72 = .ok (.getfield 134, 3) := by decide +kernel
theorem dX11_awaits_75 : decode cX11_awaits 75 = .ok (.iconst 4, 1) := by decide +kernel
theorem dX11_awaits_76 : decode cX11_awaits 76 = .ok (.if_icmp .ne 19, 3) := by decide +kernel
theorem dX11_awaits_79 : decode cX11_awaits 79 = .ok (.aload_n 0, 1) := by decide +kernel
theorem dX11_awaits_80 : decode cX11_awaits 80 = .ok (.aload_n 0, 1) := by decide +kernel
theorem dX11_awaits_81 : decode cX11_awaits 81 = .ok (.getfield 134, 3) := by decide +kernel
theorem dX11_awaits_84 : decode cX11_awaits 84 = .ok (.iconst 2, 1) := by decide +kernel
theorem dX11_awaits_85 : decode cX11_awaits 85 = .ok (.isub, 1) := by decide +kernel
theorem dX11_awaits_86 : decode cX11_awaits 86 = .ok (.invokevirtual 322, 3) := by decide +kernel
theorem dX11_awaits_89 : decode cX11_awaits 89 = .ok (.istore_n 2, 1) := by decide +kernel
theorem dX11_awaits_90 : decode cX11_awaits 90 = .ok (.aload_n 0, 1) := by decide +kernel
theorem dX11_awaits_91 : decode cX11_awaits 91 = .ok (.getfield 247, 3) := by decide +kernel
theorem dX11_awaits_94 : decode cX11_awaits 94 = .ok (.ireturn, 1) := by decide +kernel
theorem dX11_awaits_95 : decode cX11_awaits 95 = .ok (.aload_n 0, 1) := by decide +kernel
theorem dX11_awaits_96 : decode cX11_awaits 96 = .ok (.getfield 134, 3) := by decide +kernel
theorem dX11_awaits_99 : decode cX11_awaits 99 = .ok (.iconst 5, 1) := by decide +kernel
theorem dX11_awaits_100 : decode cX11_awaits 100 = .ok (.if_icmp .ne 10, 3) := by decide +kernel
theorem dX11_awaits_103 : decode cX11_awaits 103 = .ok (.aload_n 0, 1) := by decide +kernel
theorem dX11_awaits_104 : decode cX11_awaits 104 = .ok (.getfield 377, 3) := by decide +kernel
theorem dX11_awaits_107 : decode cX11_awaits 107 = .ok (.goto 4, 3) := by decide +kernel
theorem dX11_awaits_110 : decode cX11_awaits 110 = .ok (.iconst 0, 1) := by decide +kernel
theorem dX11_awaits_111 : decode cX11_awaits 111 = .ok (.ireturn, 1) := by decide +kernel
theorem dX11_stop_0 : decode cX11_stop 0 = .ok (.aload_n 0, 1) := by decide +kernel
theorem dX11_stop_1 : decode cX11_stop 1 = .ok (.getfield 124, 3) := by decide +kernel
theorem dX11_stop_4 : decode cX11_stop 4 = .ok (.ifCond .eq 6, 3) := by decide +kernel
theorem dX11_stop_7 : decode cX11_stop 7 = .ok (.bipush (-3), 2) := by decide +kernel
theorem dX11_stop_9 : decode cX11_stop 9 = .ok (.ireturn, 1) := by decide +kernel
theorem dX11_stop_10 : decode cX11_stop 10 = .ok (.aload_n 0, 1) := by decide +kernel
theorem dX11_stop_11 : decode cX11_stop 11 = .ok (.getfield 134, 3) := by decide +kernel
theorem dX11_stop_14 : decode cX11_stop 14 = .ok (.ifCond .ne 7, 3) := by decide +kernel
theorem dX11_stop_17 : decode cX11_stop 17 = .ok (.iconst 0, 1) := by decide +kernel
theorem dX11_stop_18 : decode cX11_stop 18 = .ok (.goto 4, 3) := by decide +kernel
theorem dX11_stop_21 : decode cX11_stop 21 = .ok (.iconst 1, 1) := by decide +kernel
theorem dX11_stop_22 : decode cX11_stop 22 = .ok (.istore_n 1, 1) := by decide +kernel
theorem dX11_stop_23 : decode cX11_stop 23 = .ok (.aload_n 0, 1) := by decide +kernel
theorem dX11_stop_24 : decode cX11_stop 24 = .ok (.iconst 0, 1) := by decide +kernel
theorem dX11_stop_25 : decode cX11_stop 25 = .ok (.putfield 134, 3) := by decide +kernel
theorem dX11_stop_28 : decode cX11_stop 28 = .ok (.iload_n 1, 1) := by decide +kernel
theorem dX11_stop_29 : decode cX11_stop 29 = .ok (.ireturn, 1) := by decide +kernel
theorem dX11_power_0 : decode cX11_power 0 = .ok (.iload_n 1, 1) := by decide +kernel
theorem dX11_power_1 : decode cX11_power 1 = .ok (.iconst (-1), 1) := by decide +kernel
theorem dX11_power_2 : decode cX11_power 2 = .ok (.if_icmp .lt 10, 3) := by decide +kernel
theorem dX11_power_5 : decode cX11_power 5 = .ok (.iload_n 1, 1) := by decide +kernel
theorem dX11_power_6 : decode cX11_power 6 = .ok (.sipush 500, 3) := by decide +kernel
theorem dX11_power_9 : decode cX11_power 9 = .ok (.if_icmp .le 5, 3) := by decide +kernel
theorem dX11_power_12 : decode cX11_power 12 = .ok (.iconst (-1), 1) := by decide +kernel
theorem dX11_power_13 : decode cX11_power 13 = .ok (.ireturn, 1) := by decide +kernel
theorem dX11_power_14 : decode cX11_power 14 = .ok (.aload_n 0, 1) := by decide +kernel
theorem dX11_power_15 : decode cX11_power 15 = .ok (.iload_n 1, 1) := by decide +kernel
theorem dX11_power_16 : decode cX11_power 16 = .ok (.putfield 13, 3) := by decide +kernel
theorem dX11_power_19 : decode cX11_power 19 = .ok (.aload_n 0, 1) := by decide +kernel
theorem dX11_power_20 : decode cX11_power 20 = .ok (.iload_n 2, 1) := by decide +kernel
theorem dX11_power_21 : decode cX11_power 21 = .ok (.putfield 147, 3) := by decide +kernel
theorem dX11_power_24 : decode cX11_power 24 = .ok (.iconst 1, 1) := by decide +kernel
theorem dX11_power_25 : decode cX11_power 25 = .ok (.ireturn, 1) := by decide +kernel
theorem dX11_runConfirmed_0 : decode cX11_runConfirmed 0 = .ok (.aload_n 0, 1) := by decide +kernel
theorem dX11_runConfirmed_1 : decode cX11_runConfirmed 1 = .ok (.invokevirtual 99, 3) := by decide +kernel
theorem dX11_runConfirmed_4 : decode cX11_runConfirmed 4 = .ok (.aload_n 0, 1) := by decide +kernel
theorem dX11_runConfirmed_5 : decode cX11_runConfirmed 5 = .ok (.aload_n 0, 1) := by decide +kernel
theorem dX11_runConfirmed_6 : decode cX11_runConfirmed 6 = .ok (.getfield 168, 3) := by decide +kernel
theorem dX11_runConfirmed_9 : decode cX11_runConfirmed 9 = .ok (.aload_n 0, 1) := by decide +kernel
theorem dX11_runConfirmed_10 : decode cX11_runConfirmed 10 = .ok (.getfield 174, 3) := by decide +kernel
theorem dX11_runConfirmed_13 : decode cX11_runConfirmed 13 = .ok (.invokevirtual 88, 3) := by decide +kernel
theorem dX11_runConfirmed_16 : decode cX11_runConfirmed 16 = .ok (.aload_n 0, 1) := by decide +kernel
theorem dX11_runConfirmed_17 : decode cX11_runConfirmed 17 = .ok (.getfield 177, 3) := by decide +kernel
theorem dX11_runConfirmed_20 : decode cX11_runConfirmed 20 = .ok (.lcmp, 1) := by decide +kernel
theorem dX11_runConfirmed_21 : decode cX11_runConfirmed 21 = .ok (.ifCond .ne 7, 3) := by decide +kernel
theorem dX11_runConfirmed_24 : decode cX11_runConfirmed 24 = .ok (.iconst 1, 1) := by decide +kernel
theorem dX11_runConfirmed_25 : decode cX11_runConfirmed 25 = .ok (.goto 4, 3) := by decide +kernel
theorem dX11_runConfirmed_28 : decode cX11_runConfirmed 28 = .ok (.iconst 0, 1) := by decide +kernel
theorem dX11_runConfirmed_29 : decode cX11_runConfirmed 29 = .ok (.istore_n 1, 1) := by decide +kernel
theorem dX11_runConfirmed_30 : decode cX11_runConfirmed 30 = .ok (.aload_n 0, 1) := by decide +kernel
theorem dX11_runConfirmed_31 : decode cX11_runConfirmed 31 = .ok (.iload_n 1, 1) := by decide +kernel
theorem dX11_runConfirmed_32 : decode cX11_runConfirmed 32 = .ok (.ifCond .eq 10, 3) := by decide +kernel
theorem dX11_runConfirmed_35 : decode cX11_runConfirmed 35 = .ok (.aload_n 0, 1) := by decide +kernel
theorem dX11_runConfirmed_36 : decode cX11_runConfirmed 36 = .ok (.getfield 171, 3) := by decide +kernel
theorem dX11_runConfirmed_39 : decode cX11_runConfirmed 39 = .ok (.goto 4, 3) := by decide +kernel
theorem dX11_runConfirmed_42 : decode cX11_runConfirmed 42 = .ok (.iconst 0, 1) := by decide +kernel
theorem dX11_runConfirmed_43 : decode cX11_runConfirmed 43 = .ok (.putfield 128, 3) := by decide +kernel
theorem dX11_runConfirmed_46 : decode cX11_runConfirmed 46 = .ok (.return_, 1) := by decide +kernel
theorem dX11_boot_0 : decode cX11_boot 0 = .ok (.aload_n 0, 1) := by decide +kernel
theorem dX11_boot_1 : decode cX11_boot 1 = .ok (.iconst 0, 1) := by decide +kernel
theorem dX11_boot_2 : decode cX11_boot 2 = .ok (.putfield 124, 3) := by decide +kernel
theorem dX11_boot_5 : decode cX11_boot 5 = .ok (.aload_n 0, 1) := by decide +kernel
theorem dX11_boot_6 : decode cX11_boot 6 = .ok (.iconst 0, 1) := by decide +kernel
theorem dX11_boot_7 : decode cX11_boot 7 = .ok (.putfield 134, 3) := by decide +kernel
theorem dX11_boot_10 : decode cX11_boot 10 = .ok (.aload_n 0, 1) := by decide +kernel
theorem dX11_boot_11 : decode cX11_boot 11 = .ok (.iconst 0, 1) := by decide +kernel
theorem dX11_boot_12 : decode cX11_boot 12 = .ok (.putfield 128, 3) := by decide +kernel
theorem dX11_boot_15 : decode cX11_boot 15 = .ok (.aload_n 0, 1) := by decide +kernel
theorem dX11_boot_16 : decode cX11_boot 16 = .ok (.iconst 0, 1) := by decide +kernel
theorem dX11_boot_17 : decode cX11_boot 17 = .ok (.putfield 131, 3) := by decide +kernel
theorem dX11_boot_20 : decode cX11_boot 20 = .ok (.aload_n 0, 1) := by decide +kernel
theorem dX11_boot_21 : decode cX11_boot 21 = .ok (.invokevirtual 99, 3) := by decide +kernel
theorem dX11_boot_24 : decode cX11_boot 24 = .ok (.aload_n 0, 1) := by decide +kernel
theorem dX11_boot_25 : decode cX11_boot 25 = .ok (.getfield 180, 3) := by decide +kernel
theorem dX11_boot_28 : decode cX11_boot 28 = .ok (.iconst 2, 1) := by decide +kernel
theorem dX11_boot_29 : decode cX11_boot 29 = .ok (.if_icmp .ne 66, 3) := by decide +kernel
theorem dX11_boot_32 : decode cX11_boot 32 = .ok (.aload_n 0, 1) := by decide +kernel
theorem dX11_boot_33 : decode cX11_boot 33 = .ok (.iconst 3, 1) := by decide +kernel
theorem dX11_boot_34 : decode cX11_boot 34 = .ok (.invokevirtual 389, 3) := by decide +kernel
theorem dX11_boot_37 : decode cX11_boot 37 = .ok (.aload_n 0, 1) := by decide +kernel
theorem dX11_boot_38 : decode cX11_boot 38 = .ok (.getfield 124, 3) := by decide +kernel
theorem dX11_boot_41 : decode cX11_boot 41 = .ok (.ifCond .eq 6, 3) := by decide +kernel
theorem dX11_boot_44 : decode cX11_boot 44 = .ok (.bipush (-3), 2) := by decide +kernel
theorem dX11_boot_46 : decode cX11_boot 46 = .ok (.ireturn, 1) := by decide +kernel
theorem dX11_boot_47 : decode cX11_boot 47 = .ok (.aload_n 0, 1) := by decide +kernel
theorem dX11_boot_48 : decode cX11_boot 48 = .ok (.iconst 1, 1) := by decide +kernel
theorem dX11_boot_49 : decode cX11_boot 49 = .ok (.aload_n 0, 1) := by decide +kernel
theorem dX11_boot_50 : decode cX11_boot 50 = .ok (.getfield 168, 3) := by decide +kernel
theorem dX11_boot_53 : decode cX11_boot 53 = .ok (.isub, 1) := by decide +kernel
theorem dX11_boot_54 : decode cX11_boot 54 = .ok (.aload_n 0, 1) := by decide +kernel
theorem dX11_boot_55 : decode cX11_boot 55 = .ok (.getfield 186, 3) := by decide +kernel
theorem dX11_boot_58 : decode cX11_boot 58 = .ok (.invokevirtual 88, 3) := by decide +kernel
theorem dX11_boot_61 : decode cX11_boot 61 = .ok (.aload_n 0, 1) := by decide +kernel
theorem dX11_boot_62 : decode cX11_boot 62 = .ok (.getfield 189, 3) := by decide +kernel
theorem dX11_boot_65 : decode cX11_boot 65 = .ok (.lcmp, 1) := by decide +kernel
theorem dX11_boot_66 : decode cX11_boot 66 = .ok (.ifCond .ne 21, 3) := by decide +kernel
theorem dX11_boot_69 : decode cX11_boot 69 = .ok (.aload_n 0, 1) := by decide +kernel
theorem dX11_boot_70 : decode cX11_boot 70 = .ok (.aload_n 0, 1) := by decide +kernel
theorem dX11_boot_71 : decode cX11_boot 71 = .ok (.getfield 183, 3) := by decide +kernel
theorem dX11_boot_74 : decode cX11_boot 74 = .ok (.putfield 128, 3) := by decide +kernel
theorem dX11_boot_77 : decode cX11_boot 77 = .ok (.aload_n 0, 1) := by decide +kernel
theorem dX11_boot_78 : decode cX11_boot 78 = .ok (.iconst 1, 1) := by decide +kernel
theorem dX11_boot_79 : decode cX11_boot 79 = .ok (.putfield 131, 3) := by decide +kernel
theorem dX11_boot_82 : decode cX11_boot 82 = .ok (.aload_n 0, 1) := by decide +kernel
theorem dX11_boot_83 : decode cX11_boot 83 = .ok (.getfield 128, 3) := by decide +kernel
theorem dX11_boot_86 : decode cX11_boot 86 = .ok (.ireturn, 1) := by decide +kernel
theorem dX11_boot_87 : decode cX11_boot 87 = .ok (.aload_n 0, 1) := by decide +kernel
theorem dX11_boot_88 : decode cX11_boot 88 = .ok (.iconst 0, 1) := by decide +kernel
theorem dX11_boot_89 : decode cX11_boot 89 = .ok (.invokevirtual 389, 3) := by decide +kernel
theorem dX11_boot_92 : decode cX11_boot 92 = .ok (.goto 16, 3) := by decide +kernel
theorem dX11_boot_95 : decode cX11_boot 95 = .ok (.aload_n 0, 1) := by decide +kernel
theorem dX11_boot_96 : decode cX11_boot 96 = .ok (.getfield 180, 3) := by decide +kernel
theorem dX11_boot_99 : decode cX11_boot 99 = .ok (.iconst 3, 1) := by decide +kernel
theorem dX11_boot_100 : decode cX11_boot 100 = .ok (.if_icmp .ne 8, 3) := by decide +kernel
theorem dX11_boot_103 : decode cX11_boot 103 = .ok (.aload_n 0, 1) := by decide +kernel
theorem dX11_boot_104 : decode cX11_boot 104 = .ok (.iconst 0, 1) := by decide +kernel
theorem dX11_boot_105 : decode cX11_boot 105 = .ok (.invokevirtual 389, 3) := by decide +kernel
theorem dX11_boot_108 : decode cX11_boot 108 = .ok (.aload_n 0, 1) := by decide +kernel
theorem dX11_boot_109 : decode cX11_boot 109 = .ok (.getfield 124, 3) := by decide +kernel
theorem dX11_boot_112 : decode cX11_boot 112 = .ok (.ifCond .eq 6, 3) := by decide +kernel
theorem dX11_boot_115 : decode cX11_boot 115 = .ok (.bipush (-3), 2) := by decide +kernel
theorem dX11_boot_117 : decode cX11_boot 117 = .ok (.ireturn, 1) := by decide +kernel
theorem dX11_boot_118 : decode cX11_boot 118 = .ok (.aload_n 0, 1) := by decide +kernel
theorem dX11_boot_119 : decode cX11_boot 119 = .ok (.invokevirtual 392, 3) := by decide +kernel
theorem dX11_boot_122 : decode cX11_boot 122 = .ok (.aload_n 0, 1) := by decide +kernel
theorem dX11_boot_123 : decode cX11_boot 123 = .ok (.getfield 128, 3) := by decide +kernel
theorem dX11_boot_126 : decode cX11_boot 126 = .ok (.ifCond .ne 8, 3) := by decide +kernel
theorem dX11_boot_129 : decode cX11_boot 129 = .ok (.bipush (-2), 2) := by decide +kernel
theorem dX11_boot_131 : decode cX11_boot 131 = .ok (.goto 7, 3) := by decide +kernel
theorem dX11_boot_134 : decode cX11_boot 134 = .ok (.aload_n 0, 1) := by decide +kernel
theorem dX11_boot_135 : decode cX11_boot 135 = .ok (.getfield 128, 3) := by decide +kernel
theorem dX11_boot_138 : decode cX11_boot 138 = .ok (.ireturn, 1) := by decide +kernel
theorem dX11_test_0 : decode cX11_test 0 = .ok (.aload_n 0, 1) := by decide +kernel
theorem dX11_test_1 : decode cX11_test 1 = .ok (.getfield 124, 3) := by decide +kernel
theorem dX11_test_4 : decode cX11_test 4 = .ok (.ifCond .eq 6, 3) := by decide +kernel
theorem dX11_test_7 : decode cX11_test 7 = .ok (.bipush (-3), 2) := by decide +kernel
theorem dX11_test_9 : decode cX11_test 9 = .ok (.ireturn, 1) := by decide +kernel
theorem dX11_test_10 : decode cX11_test 10 = .ok (.aload_n 0, 1) := by decide +kernel
theorem dX11_test_11 : decode cX11_test 11 = .ok (.getfield 128, 3) := by decide +kernel
theorem dX11_test_14 : decode cX11_test 14 = .ok (.ifCond .eq 10, 3) := by decide +kernel
theorem dX11_test_17 : decode cX11_test 17 = .ok (.aload_n 0, 1) := by decide +kernel
theorem dX11_test_18 : decode cX11_test 18 = .ok (.getfield 131, 3) := by decide +kernel
theorem dX11_test_21 : decode cX11_test 21 = .ok (.ifCond .ne 6, 3) := by decide +kernel
theorem dX11_test_24 : decode cX11_test 24 = .ok (.bipush (-4), 2) := by decide +kernel
theorem dX11_test_26 : decode cX11_test 26 = .ok (.ireturn, 1) := by decide +kernel
theorem dX11_test_27 : decode cX11_test 27 = .ok (.aload_n 0, 1) := by decide +kernel
theorem dX11_test_28 : decode cX11_test 28 = .ok (.invokevirtual 99, 3) := by decide +kernel
theorem dX11_test_31 : decode cX11_test 31 = .ok (.iload_n 1, 1) := by decide +kernel
theorem dX11_test_32 : decode cX11_test 32 = .ok (.ifCond .eq 37, 3) := by decide +kernel
theorem dX11_test_35 : decode cX11_test 35 = .ok (.aload_n 0, 1) := by decide +kernel
theorem dX11_test_36 : decode cX11_test 36 = .ok (.iconst 1, 1) := by decide +kernel
theorem dX11_test_37 : decode cX11_test 37 = .ok (.aload_n 0, 1) := by decide +kernel
theorem dX11_test_38 : decode cX11_test 38 = .ok (.getfield 168, 3) := by decide +kernel
theorem dX11_test_41 : decode cX11_test 41 = .ok (.isub, 1) := by decide +kernel
theorem dX11_test_42 : decode cX11_test 42 = .ok (.putfield 168, 3) := by decide +kernel
theorem dX11_test_45 : decode cX11_test 45 = .ok (.aload_n 0, 1) := by decide +kernel
theorem dX11_test_46 : decode cX11_test 46 = .ok (.aload_n 0, 1) := by decide +kernel
theorem dX11_test_47 : decode cX11_test 47 = .ok (.getfield 183, 3) := by decide +kernel
theorem dX11_test_50 : decode cX11_test 50 = .ok (.putfield 171, 3) := by decide +kernel
theorem dX11_test_53 : decode cX11_test 53 = .ok (.aload_n 0, 1) := by decide +kernel
theorem dX11_test_54 : decode cX11_test 54 = .ok (.aload_n 0, 1) := by decide +kernel
theorem dX11_test_55 : decode cX11_test 55 = .ok (.getfield 186, 3) := by decide +kernel
theorem dX11_test_58 : decode cX11_test 58 = .ok (.putfield 174, 3) := by decide +kernel
theorem dX11_test_61 : decode cX11_test 61 = .ok (.aload_n 0, 1) := by decide +kernel
theorem dX11_test_62 : decode cX11_test 62 = .ok (.aload_n 0, 1) := by decide +kernel
theorem dX11_test_63 : decode cX11_test 63 = .ok (.getfield 189, 3) := by decide +kernel
theorem dX11_test_66 : decode cX11_test 66 = .ok (.putfield 177, 3) := by decide +kernel
theorem dX11_test_69 : decode cX11_test 69 = .ok (.aload_n 0, 1) := by decide +kernel
theorem dX11_test_70 : decode cX11_test 70 = .ok (.iconst 0, 1) := by decide +kernel
theorem dX11_test_71 : decode cX11_test 71 = .ok (.invokevirtual 389, 3) := by decide +kernel
theorem dX11_test_74 : decode cX11_test 74 = .ok (.aload_n 0, 1) := by decide +kernel
theorem dX11_test_75 : decode cX11_test 75 = .ok (.getfield 124, 3) := by decide +kernel
theorem dX11_test_78 : decode cX11_test 78 = .ok (.ifCond .eq 6, 3) := by decide +kernel
theorem dX11_test_81 : decode cX11_test 81 = .ok (.bipush (-3), 2) := by decide +kernel
theorem dX11_test_83 : decode cX11_test 83 = .ok (.ireturn, 1) := by decide +kernel
theorem dX11_test_84 : decode cX11_test 84 = .ok (.aload_n 0, 1) := by decide +kernel
theorem dX11_test_85 : decode cX11_test 85 = .ok (.iconst 0, 1) := by decide +kernel
theorem dX11_test_86 : decode cX11_test 86 = .ok (.putfield 131, 3) := by decide +kernel
theorem dX11_test_89 : decode cX11_test 89 = .ok (.aload_n 0, 1) := by decide +kernel
theorem dX11_test_90 : decode cX11_test 90 = .ok (.iload_n 1, 1) := by decide +kernel
theorem dX11_test_91 : decode cX11_test 91 = .ok (.ifCond .eq 10, 3) := by decide +kernel
theorem dX11_test_94 : decode cX11_test 94 = .ok (.aload_n 0, 1) := by decide +kernel
theorem dX11_test_95 : decode cX11_test 95 = .ok (.getfield 128, 3) := by decide +kernel
theorem dX11_test_98 : decode cX11_test 98 = .ok (.goto 4, 3) := by decide +kernel
theorem dX11_test_101 : decode cX11_test 101 = .ok (.iconst 0, 1) := by decide +kernel
theorem dX11_test_102 : decode cX11_test 102 = .ok (.putfield 128, 3) := by decide +kernel
theorem dX11_test_105 : decode cX11_test 105 = .ok (.aload_n 0, 1) := by decide +kernel
theorem dX11_test_106 : decode cX11_test 106 = .ok (.getfield 128, 3) := by decide +kernel
theorem dX11_test_109 : decode cX11_test 109 = .ok (.ireturn, 1) := by decide +kernel
theorem dX11_told_0 : decode cX11_told 0 = .ok (.aload_n 0, 1) := by decide +kernel
theorem dX11_told_1 : decode cX11_told 1 = .ok (.invokevirtual 99, 3) := by decide +kernel
theorem dX11_told_4 : decode cX11_told 4 = .ok (.iload_n 1, 1) := by decide +kernel
theorem dX11_told_5 : decode cX11_told 5 = .ok (.tableswitch 177 0 14 #[75, 88, 93, 106, 111, 116, 121, 126, 131, 136, 141, 146, 151, 156, 161], 75) := by decide +kernel
theorem dX11_told_80 : decode cX11_told 80 = .ok (.aload_n 0, 1) := by decide +kernel
theorem dX11_told_81 : decode cX11_told 81 = .ok (.getfield 124, 3) := by decide +kernel
theorem dX11_told_84 : decode cX11_told 84 = .ok (.ifCond .eq 7, 3) := by decide +kernel
theorem dX11_told_87 : decode cX11_told 87 = .ok (.iconst 1, 1) := by decide +kernel
theorem dX11_told_88 : decode cX11_told 88 = .ok (.goto 4, 3) := by decide +kernel
theorem dX11_told_91 : decode cX11_told 91 = .ok (.iconst 0, 1) := by decide +kernel
theorem dX11_told_92 : decode cX11_told 92 = .ok (.ireturn, 1) := by decide +kernel
theorem dX11_told_93 : decode cX11_told 93 = .ok (.aload_n 0, 1) := by decide +kernel
theorem dX11_told_94 : decode cX11_told 94 = .ok (.getfield 128, 3) := by decide +kernel
theorem dX11_told_97 : decode cX11_told 97 = .ok (.ireturn, 1) := by decide +kernel
theorem dX11_told_98 : decode cX11_told 98 = .ok (.aload_n 0, 1) := by decide +kernel
theorem dX11_told_99 : decode cX11_told 99 = .ok (.getfield 131, 3) := by decide +kernel
theorem dX11_told_102 : decode cX11_told 102 = .ok (.ifCond .eq 7, 3) := by decide +kernel
theorem dX11_told_105 : decode cX11_told 105 = .ok (.iconst 1, 1) := by decide +kernel
theorem dX11_told_106 : decode cX11_told 106 = .ok (.goto 4, 3) := by decide +kernel
theorem dX11_told_109 : decode cX11_told 109 = .ok (.iconst 0, 1) := by decide +kernel
theorem dX11_told_110 : decode cX11_told 110 = .ok (.ireturn, 1) := by decide +kernel
theorem dX11_told_111 : decode cX11_told 111 = .ok (.aload_n 0, 1) := by decide +kernel
theorem dX11_told_112 : decode cX11_told 112 = .ok (.getfield 168, 3) := by decide +kernel
theorem dX11_told_115 : decode cX11_told 115 = .ok (.ireturn, 1) := by decide +kernel
theorem dX11_told_116 : decode cX11_told 116 = .ok (.aload_n 0, 1) := by decide +kernel
theorem dX11_told_117 : decode cX11_told 117 = .ok (.getfield 171, 3) := by decide +kernel
theorem dX11_told_120 : decode cX11_told 120 = .ok (.ireturn, 1) := by decide +kernel
theorem dX11_told_121 : decode cX11_told 121 = .ok (.aload_n 0, 1) := by decide +kernel
theorem dX11_told_122 : decode cX11_told 122 = .ok (.getfield 174, 3) := by decide +kernel
theorem dX11_told_125 : decode cX11_told 125 = .ok (.ireturn, 1) := by decide +kernel
theorem dX11_told_126 : decode cX11_told 126 = .ok (.aload_n 0, 1) := by decide +kernel
theorem dX11_told_127 : decode cX11_told 127 = .ok (.getfield 180, 3) := by decide +kernel
theorem dX11_told_130 : decode cX11_told 130 = .ok (.ireturn, 1) := by decide +kernel
theorem dX11_told_131 : decode cX11_told 131 = .ok (.aload_n 0, 1) := by decide +kernel
theorem dX11_told_132 : decode cX11_told 132 = .ok (.getfield 183, 3) := by decide +kernel
theorem dX11_told_135 : decode cX11_told 135 = .ok (.ireturn, 1) := by decide +kernel
theorem dX11_told_136 : decode cX11_told 136 = .ok (.aload_n 0, 1) := by decide +kernel
theorem dX11_told_137 : decode cX11_told 137 = .ok (.getfield 186, 3) := by decide +kernel
theorem dX11_told_140 : decode cX11_told 140 = .ok (.ireturn, 1) := by decide +kernel
theorem dX11_told_141 : decode cX11_told 141 = .ok (.aload_n 0, 1) := by decide +kernel
theorem dX11_told_142 : decode cX11_told 142 = .ok (.getfield 96, 3) := by decide +kernel
theorem dX11_told_145 : decode cX11_told 145 = .ok (.ireturn, 1) := by decide +kernel
theorem dX11_told_146 : decode cX11_told 146 = .ok (.aload_n 0, 1) := by decide +kernel
theorem dX11_told_147 : decode cX11_told 147 = .ok (.getfield 137, 3) := by decide +kernel
theorem dX11_told_150 : decode cX11_told 150 = .ok (.ireturn, 1) := by decide +kernel
theorem dX11_told_151 : decode cX11_told 151 = .ok (.aload_n 0, 1) := by decide +kernel
theorem dX11_told_152 : decode cX11_told 152 = .ok (.getfield 144, 3) := by decide +kernel
theorem dX11_told_155 : decode cX11_told 155 = .ok (.ireturn, 1) := by decide +kernel
theorem dX11_told_156 : decode cX11_told 156 = .ok (.aload_n 0, 1) := by decide +kernel
theorem dX11_told_157 : decode cX11_told 157 = .ok (.getfield 13, 3) := by decide +kernel
theorem dX11_told_160 : decode cX11_told 160 = .ok (.ireturn, 1) := by decide +kernel
theorem dX11_told_161 : decode cX11_told 161 = .ok (.aload_n 0, 1) := by decide +kernel
theorem dX11_told_162 : decode cX11_told 162 = .ok (.getfield 298, 3) := by decide +kernel
theorem dX11_told_165 : decode cX11_told 165 = .ok (.ireturn, 1) := by decide +kernel
theorem dX11_told_166 : decode cX11_told 166 = .ok (.aload_n 0, 1) := by decide +kernel
theorem dX11_told_167 : decode cX11_told 167 = .ok (.getfield 134, 3) := by decide +kernel
theorem dX11_told_170 : decode cX11_told 170 = .ok (.ifCond .ne 7, 3) := by decide +kernel
theorem dX11_told_173 : decode cX11_told 173 = .ok (.iconst 0, 1) := by decide +kernel
theorem dX11_told_174 : decode cX11_told 174 = .ok (.goto 7, 3) := by decide +kernel
theorem dX11_told_177 : decode cX11_told 177 = .ok (.aload_n 0, 1) := by decide +kernel
theorem dX11_told_178 : decode cX11_told 178 = .ok (.getfield 301, 3) := by decide +kernel
theorem dX11_told_181 : decode cX11_told 181 = .ok (.ireturn, 1) := by decide +kernel
theorem dX11_told_182 : decode cX11_told 182 = .ok (.iconst (-1), 1) := by decide +kernel
theorem dX11_told_183 : decode cX11_told 183 = .ok (.ireturn, 1) := by decide +kernel
theorem dX11_trusted_0 : decode cX11_trusted 0 = .ok (.iload_n 1, 1) := by decide +kernel
theorem dX11_trusted_1 : decode cX11_trusted 1 = .ok (.ifCond .lt 18, 3) := by decide +kernel
theorem dX11_trusted_4 : decode cX11_trusted 4 = .ok (.iload_n 1, 1) := by decide +kernel
theorem dX11_trusted_5 : decode cX11_trusted 5 = .ok (.iconst 3, 1) := by decide +kernel
theorem dX11_trusted_6 : decode cX11_trusted 6 = .ok (.if_icmp .gt 13, 3) := by decide +kernel
theorem dX11_trusted_9 : decode cX11_trusted 9 = .ok (.iload_n 2, 1) := by decide +kernel
theorem dX11_trusted_10 : decode cX11_trusted 10 = .ok (.ifCond .lt 9, 3) := by decide +kernel
theorem dX11_trusted_13 : decode cX11_trusted 13 = .ok (.iload_n 2, 1) := by decide +kernel
theorem dX11_trusted_14 : decode cX11_trusted 14 = .ok (.bipush 9, 2) := by decide +kernel
theorem dX11_trusted_16 : decode cX11_trusted 16 = .ok (.if_icmp .le 5, 3) := by decide +kernel
theorem dX11_trusted_19 : decode cX11_trusted 19 = .ok (.iconst (-1), 1) := by decide +kernel
theorem dX11_trusted_20 : decode cX11_trusted 20 = .ok (.ireturn, 1) := by decide +kernel
theorem dX11_trusted_21 : decode cX11_trusted 21 = .ok (.aload_n 0, 1) := by decide +kernel
theorem dX11_trusted_22 : decode cX11_trusted 22 = .ok (.iload_n 1, 1) := by decide +kernel
theorem dX11_trusted_23 : decode cX11_trusted 23 = .ok (.invokevirtual 322, 3) := by decide +kernel
theorem dX11_trusted_26 : decode cX11_trusted 26 = .ok (.istore 4, 2) := by decide +kernel
theorem dX11_trusted_28 : decode cX11_trusted 28 = .ok (.iload_n 2, 1) := by decide +kernel
theorem dX11_trusted_29 : decode cX11_trusted 29 = .ok (.iconst 3, 1) := by decide +kernel
theorem dX11_trusted_30 : decode cX11_trusted 30 = .ok (.if_icmp .ne 8, 3) := by decide +kernel
theorem dX11_trusted_33 : decode cX11_trusted 33 = .ok (.aload_n 0, 1) := by decide +kernel
theorem dX11_trusted_34 : decode cX11_trusted 34 = .ok (.getfield 276, 3) := by decide +kernel
theorem dX11_trusted_37 : decode cX11_trusted 37 = .ok (.ireturn, 1) := by decide +kernel
theorem dX11_trusted_38 : decode cX11_trusted 38 = .ok (.iload 4, 2) := by decide +kernel
theorem dX11_trusted_40 : decode cX11_trusted 40 = .ok (.ifCond .ne 14, 3) := by decide +kernel
theorem dX11_trusted_43 : decode cX11_trusted 43 = .ok (.iload_n 2, 1) := by decide +kernel
theorem dX11_trusted_44 : decode cX11_trusted 44 = .ok (.ifCond .ne 8, 3) := by decide +kernel
theorem dX11_trusted_47 : decode cX11_trusted 47 = .ok (.bipush (-2), 2) := by decide +kernel
theorem dX11_trusted_49 : decode cX11_trusted 49 = .ok (.goto 4, 3) := by decide +kernel
theorem dX11_trusted_52 : decode cX11_trusted 52 = .ok (.iconst (-1), 1) := by decide +kernel
theorem dX11_trusted_53 : decode cX11_trusted 53 = .ok (.ireturn, 1) := by decide +kernel
theorem dX11_trusted_54 : decode cX11_trusted 54 = .ok (.iload_n 2, 1) := by decide +kernel
theorem dX11_trusted_55 : decode cX11_trusted 55 = .ok (.iconst 3, 1) := by decide +kernel
theorem dX11_trusted_56 : decode cX11_trusted 56 = .ok (.if_icmp .ge 32, 3) := by decide +kernel
theorem dX11_trusted_59 : decode cX11_trusted 59 = .ok (.iload_n 2, 1) := by decide +kernel
theorem dX11_trusted_60 : decode cX11_trusted 60 = .ok (.ifCond .ne 10, 3) := by decide +kernel
theorem dX11_trusted_63 : decode cX11_trusted 63 = .ok (.aload_n 0, 1) := by decide +kernel
theorem dX11_trusted_64 : decode cX11_trusted 64 = .ok (.getfield 235, 3) := by decide +kernel
theorem dX11_trusted_67 : decode cX11_trusted 67 = .ok (.goto 20, 3) := by decide +kernel
theorem dX11_trusted_70 : decode cX11_trusted 70 = .ok (.iload_n 2, 1) := by decide +kernel
theorem dX11_trusted_71 : decode cX11_trusted 71 = .ok (.iconst 1, 1) := by decide +kernel
theorem dX11_trusted_72 : decode cX11_trusted 72 = .ok (.if_icmp .ne 11, 3) := by decide +kernel
theorem dX11_trusted_75 : decode cX11_trusted 75 = .ok (.aload_n 0, 1) := by decide +kernel
theorem dX11_trusted_76 : decode cX11_trusted 76 = .ok (.getfield 238, 3) := by decide +kernel
theorem dX11_trusted_79 : decode cX11_trusted 79 = .ok (.l2i, 1) := by decide +kernel
theorem dX11_trusted_80 : decode cX11_trusted 80 = .ok (.goto 7, 3) := by decide +kernel
theorem dX11_trusted_83 : decode cX11_trusted 83 = .ok (.aload_n 0, 1) := by decide +kernel
theorem dX11_trusted_84 : decode cX11_trusted 84 = .ok (.getfield 232, 3) := by decide +kernel
theorem dX11_trusted_87 : decode cX11_trusted 87 = .ok (.ireturn, 1) := by decide +kernel
theorem dX11_trusted_88 : decode cX11_trusted 88 = .ok (.iload_n 2, 1) := by decide +kernel
theorem dX11_trusted_89 : decode cX11_trusted 89 = .ok (.bipush 6, 2) := by decide +kernel
theorem dX11_trusted_91 : decode cX11_trusted 91 = .ok (.if_icmp .ge 53, 3) := by decide +kernel
theorem dX11_trusted_94 : decode cX11_trusted 94 = .ok (.iload_n 1, 1) := by decide +kernel
theorem dX11_trusted_95 : decode cX11_trusted 95 = .ok (.ifCond .ne 16, 3) := by decide +kernel
theorem dX11_trusted_98 : decode cX11_trusted 98 = .ok (.iload_n 3, 1) := by decide +kernel
theorem dX11_trusted_99 : decode cX11_trusted 99 = .ok (.ifCond .lt 12, 3) := by decide +kernel
theorem dX11_trusted_102 : decode cX11_trusted 102 = .ok (.iload_n 3, 1) := by decide +kernel
theorem dX11_trusted_103 : decode cX11_trusted 103 = .ok (.iconst 4, 1) := by decide +kernel
theorem dX11_trusted_104 : decode cX11_trusted 104 = .ok (.if_icmp .ge 7, 3) := by decide +kernel
theorem dX11_trusted_107 : decode cX11_trusted 107 = .ok (.iconst 1, 1) := by decide +kernel
theorem dX11_trusted_108 : decode cX11_trusted 108 = .ok (.goto 4, 3) := by decide +kernel
theorem dX11_trusted_111 : decode cX11_trusted 111 = .ok (.iconst 0, 1) := by decide +kernel
theorem dX11_trusted_112 : decode cX11_trusted 112 = .ok (.istore 5, 2) := by decide +kernel
theorem dX11_trusted_114 : decode cX11_trusted 114 = .ok (.iload 5, 2) := by decide +kernel
theorem dX11_trusted_116 : decode cX11_trusted 116 = .ok (.ifCond .ne 7, 3) := by decide +kernel
theorem dX11_trusted_119 : decode cX11_trusted 119 = .ok (.iconst (-1), 1) := by decide +kernel
theorem dX11_trusted_120 : decode cX11_trusted 120 = .ok (.goto 23, 3) := by decide +kernel
theorem dX11_trusted_123 : decode cX11_trusted 123 = .ok (.iload_n 2, 1) := by decide +kernel
theorem dX11_trusted_124 : decode cX11_trusted 124 = .ok (.iconst 4, 1) := by decide +kernel
theorem dX11_trusted_125 : decode cX11_trusted 125 = .ok (.if_icmp .ne 12, 3) := by decide +kernel
theorem dX11_trusted_128 : decode cX11_trusted 128 = .ok (.aload_n 0, 1) := by decide +kernel
theorem dX11_trusted_129 : decode cX11_trusted 129 = .ok (.getfield 26, 3) := by decide +kernel
theorem dX11_trusted_132 : decode cX11_trusted 132 = .ok (.iload_n 3, 1) := by decide +kernel
theorem dX11_trusted_133 : decode cX11_trusted 133 = .ok (.iaload, 1) := by decide +kernel
theorem dX11_trusted_134 : decode cX11_trusted 134 = .ok (.goto 9, 3) := by decide +kernel
theorem dX11_trusted_137 : decode cX11_trusted 137 = .ok (.aload_n 0, 1) := by decide +kernel
theorem dX11_trusted_138 : decode cX11_trusted 138 = .ok (.getfield 29, 3) := by decide +kernel
theorem dX11_trusted_141 : decode cX11_trusted 141 = .ok (.iload_n 3, 1) := by decide +kernel
theorem dX11_trusted_142 : decode cX11_trusted 142 = .ok (.iaload, 1) := by decide +kernel
theorem dX11_trusted_143 : decode cX11_trusted 143 = .ok (.ireturn, 1) := by decide +kernel
theorem dX11_trusted_144 : decode cX11_trusted 144 = .ok (.iload_n 2, 1) := by decide +kernel
theorem dX11_trusted_145 : decode cX11_trusted 145 = .ok (.bipush 6, 2) := by decide +kernel
theorem dX11_trusted_147 : decode cX11_trusted 147 = .ok (.if_icmp .ne 22, 3) := by decide +kernel
theorem dX11_trusted_150 : decode cX11_trusted 150 = .ok (.iload_n 1, 1) := by decide +kernel
theorem dX11_trusted_151 : decode cX11_trusted 151 = .ok (.iconst 1, 1) := by decide +kernel
theorem dX11_trusted_152 : decode cX11_trusted 152 = .ok (.if_icmp .eq 8, 3) := by decide +kernel
theorem dX11_trusted_155 : decode cX11_trusted 155 = .ok (.iload_n 1, 1) := by decide +kernel
theorem dX11_trusted_156 : decode cX11_trusted 156 = .ok (.iconst 2, 1) := by decide +kernel
theorem dX11_trusted_157 : decode cX11_trusted 157 = .ok (.if_icmp .ne 10, 3) := by decide +kernel
theorem dX11_trusted_160 : decode cX11_trusted 160 = .ok (.aload_n 0, 1) := by decide +kernel
theorem dX11_trusted_161 : decode cX11_trusted 161 = .ok (.getfield 247, 3) := by decide +kernel
theorem dX11_trusted_164 : decode cX11_trusted 164 = .ok (.goto 4, 3) := by decide +kernel
theorem dX11_trusted_167 : decode cX11_trusted 167 = .ok (.iconst (-1), 1) := by decide +kernel
theorem dX11_trusted_168 : decode cX11_trusted 168 = .ok (.ireturn, 1) := by decide +kernel
theorem dX11_trusted_169 : decode cX11_trusted 169 = .ok (.iload_n 1, 1) := by decide +kernel
theorem dX11_trusted_170 : decode cX11_trusted 170 = .ok (.iconst 3, 1) := by decide +kernel
theorem dX11_trusted_171 : decode cX11_trusted 171 = .ok (.if_icmp .eq 5, 3) := by decide +kernel
theorem dX11_trusted_174 : decode cX11_trusted 174 = .ok (.iconst (-1), 1) := by decide +kernel
theorem dX11_trusted_175 : decode cX11_trusted 175 = .ok (.ireturn, 1) := by decide +kernel
theorem dX11_trusted_176 : decode cX11_trusted 176 = .ok (.iload_n 2, 1) := by decide +kernel
theorem dX11_trusted_177 : decode cX11_trusted 177 = .ok (.bipush 7, 2) := by decide +kernel
theorem dX11_trusted_179 : decode cX11_trusted 179 = .ok (.if_icmp .ne 8, 3) := by decide +kernel
theorem dX11_trusted_182 : decode cX11_trusted 182 = .ok (.aload_n 0, 1) := by decide +kernel
theorem dX11_trusted_183 : decode cX11_trusted 183 = .ok (.getfield 256, 3) := by decide +kernel
theorem dX11_trusted_186 : decode cX11_trusted 186 = .ok (.ireturn, 1) := by decide +kernel
theorem dX11_trusted_187 : decode cX11_trusted 187 = .ok (.iload_n 3, 1) := by decide +kernel
theorem dX11_trusted_188 : decode cX11_trusted 188 = .ok (.ifCond .lt 11, 3) := by decide +kernel
theorem dX11_trusted_191 : decode cX11_trusted 191 = .ok (.iload_n 3, 1) := by decide +kernel
theorem dX11_trusted_192 : decode cX11_trusted 192 = .ok (.aload_n 0, 1) := by decide +kernel
theorem dX11_trusted_193 : decode cX11_trusted 193 = .ok (.getfield 256, 3) := by decide +kernel
theorem dX11_trusted_196 : decode cX11_trusted 196 = .ok (.if_icmp .lt 7, 3) := by decide +kernel
theorem dX11_trusted_199 : decode cX11_trusted 199 = .ok (.iconst (-1), 1) := by decide +kernel
theorem dX11_trusted_200 : decode cX11_trusted 200 = .ok (.goto 24, 3) := by decide +kernel
theorem dX11_trusted_203 : decode cX11_trusted 203 = .ok (.iload_n 2, 1) := by decide +kernel
theorem dX11_trusted_204 : decode cX11_trusted 204 = .ok (.bipush 8, 2) := by decide +kernel
theorem dX11_trusted_206 : decode cX11_trusted 206 = .ok (.if_icmp .ne 12, 3) := by decide +kernel
theorem dX11_trusted_209 : decode cX11_trusted 209 = .ok (.aload_n 0, 1) := by decide +kernel
theorem dX11_trusted_210 : decode cX11_trusted 210 = .ok (.getfield 32, 3) := by decide +kernel
theorem dX11_trusted_213 : decode cX11_trusted 213 = .ok (.iload_n 3, 1) := by decide +kernel
theorem dX11_trusted_214 : decode cX11_trusted 214 = .ok (.iaload, 1) := by decide +kernel
theorem dX11_trusted_215 : decode cX11_trusted 215 = .ok (.goto 9, 3) := by decide +kernel
theorem dX11_trusted_218 : decode cX11_trusted 218 = .ok (.aload_n 0, 1) := by decide +kernel
theorem dX11_trusted_219 : decode cX11_trusted 219 = .ok (.getfield 35, 3) := by decide +kernel
theorem dX11_trusted_222 : decode cX11_trusted 222 = .ok (.iload_n 3, 1) := by decide +kernel
theorem dX11_trusted_223 : decode cX11_trusted 223 = .ok (.iaload, 1) := by decide +kernel
theorem dX11_trusted_224 : decode cX11_trusted 224 = .ok (.ireturn, 1) := by decide +kernel
theorem dX11_plan_0 : decode cX11_plan 0 = .ok (.iconst 0, 1) := by decide +kernel
theorem dX11_plan_1 : decode cX11_plan 1 = .ok (.istore 4, 2) := by decide +kernel
theorem dX11_plan_3 : decode cX11_plan 3 = .ok (.iconst 0, 1) := by decide +kernel
theorem dX11_plan_4 : decode cX11_plan 4 = .ok (.istore 5, 2) := by decide +kernel
theorem dX11_plan_6 : decode cX11_plan 6 = .ok (.iload 5, 2) := by decide +kernel
theorem dX11_plan_8 : decode cX11_plan 8 = .ok (.bipush 16, 2) := by decide +kernel
theorem dX11_plan_10 : decode cX11_plan 10 = .ok (.if_icmp .ge 20, 3) := by decide +kernel
theorem dX11_plan_13 : decode cX11_plan 13 = .ok (.iload 4, 2) := by decide +kernel
theorem dX11_plan_15 : decode cX11_plan 15 = .ok (.iload_n 2, 1) := by decide +kernel
theorem dX11_plan_16 : decode cX11_plan 16 = .ok (.iload 5, 2) := by decide +kernel
theorem dX11_plan_18 : decode cX11_plan 18 = .ok (.ishr, 1) := by decide +kernel
theorem dX11_plan_19 : decode cX11_plan 19 = .ok (.iconst 1, 1) := by decide +kernel
theorem dX11_plan_20 : decode cX11_plan 20 = .ok (.iand, 1) := by decide +kernel
theorem dX11_plan_21 : decode cX11_plan 21 = .ok (.iadd, 1) := by decide +kernel
theorem dX11_plan_22 : decode cX11_plan 22 = .ok (.istore 4, 2) := by decide +kernel
theorem dX11_plan_24 : decode cX11_plan 24 = .ok (.iinc 5 1, 3) := by decide +kernel
theorem dX11_plan_27 : decode cX11_plan 27 = .ok (.goto (-21), 3) := by decide +kernel
theorem dX11_plan_30 : decode cX11_plan 30 = .ok (.iload_n 1, 1) := by decide +kernel
theorem dX11_plan_31 : decode cX11_plan 31 = .ok (.ifCond .lt 42, 3) := by decide +kernel
theorem dX11_plan_34 : decode cX11_plan 34 = .ok (.iload_n 1, 1) := by decide +kernel
theorem dX11_plan_35 : decode cX11_plan 35 = .ok (.iconst 3, 1) := by decide +kernel
theorem dX11_plan_36 : decode cX11_plan 36 = .ok (.if_icmp .gt 37, 3) := by decide +kernel
theorem dX11_plan_39 : decode cX11_plan 39 = .ok (.iload_n 2, 1) := by decide +kernel
theorem dX11_plan_40 : decode cX11_plan 40 = .ok (.ifCond .lt 33, 3) := by decide +kernel
theorem dX11_plan_43 : decode cX11_plan 43 = .ok (.iload_n 2, 1) := by decide +kernel
theorem dX11_plan_44 : decode cX11_plan 44 = .ok (.ldc_w 395, 3) := by decide +kernel
theorem dX11_plan_47 : decode cX11_plan 47 = .ok (.if_icmp .gt 26, 3) := by decide +kernel
theorem dX11_plan_50 : decode cX11_plan 50 = .ok (.iload 4, 2) := by decide +kernel
theorem dX11_plan_52 : decode cX11_plan 52 = .ok (.iconst 1, 1) := by decide +kernel
theorem dX11_plan_53 : decode cX11_plan 53 = .ok (.if_icmp .lt 20, 3) := by decide +kernel
theorem dX11_plan_56 : decode cX11_plan 56 = .ok (.iload 4, 2) := by decide +kernel
theorem dX11_plan_58 : decode cX11_plan 58 = .ok (.iconst 5, 1) := by decide +kernel
theorem dX11_plan_59 : decode cX11_plan 59 = .ok (.if_icmp .gt 14, 3) := by decide +kernel
theorem dX11_plan_62 : decode cX11_plan 62 = .ok (.iload_n 3, 1) := by decide +kernel
theorem dX11_plan_63 : decode cX11_plan 63 = .ok (.iconst 1, 1) := by decide +kernel
theorem dX11_plan_64 : decode cX11_plan 64 = .ok (.if_icmp .lt 9, 3) := by decide +kernel
theorem dX11_plan_67 : decode cX11_plan 67 = .ok (.iload_n 3, 1) := by decide +kernel
theorem dX11_plan_68 : decode cX11_plan 68 = .ok (.iload 4, 2) := by decide +kernel
theorem dX11_plan_70 : decode cX11_plan 70 = .ok (.if_icmp .le 5, 3) := by decide +kernel
theorem dX11_plan_73 : decode cX11_plan 73 = .ok (.iconst (-1), 1) := by decide +kernel
theorem dX11_plan_74 : decode cX11_plan 74 = .ok (.ireturn, 1) := by decide +kernel
theorem dX11_plan_75 : decode cX11_plan 75 = .ok (.aload_n 0, 1) := by decide +kernel
theorem dX11_plan_76 : decode cX11_plan 76 = .ok (.getfield 54, 3) := by decide +kernel
theorem dX11_plan_79 : decode cX11_plan 79 = .ok (.iload_n 1, 1) := by decide +kernel
theorem dX11_plan_80 : decode cX11_plan 80 = .ok (.iload_n 2, 1) := by decide +kernel
theorem dX11_plan_81 : decode cX11_plan 81 = .ok (.iastore, 1) := by decide +kernel
theorem dX11_plan_82 : decode cX11_plan 82 = .ok (.aload_n 0, 1) := by decide +kernel
theorem dX11_plan_83 : decode cX11_plan 83 = .ok (.getfield 57, 3) := by decide +kernel
theorem dX11_plan_86 : decode cX11_plan 86 = .ok (.iload_n 1, 1) := by decide +kernel
theorem dX11_plan_87 : decode cX11_plan 87 = .ok (.iload_n 3, 1) := by decide +kernel
theorem dX11_plan_88 : decode cX11_plan 88 = .ok (.iastore, 1) := by decide +kernel
theorem dX11_plan_89 : decode cX11_plan 89 = .ok (.iconst 1, 1) := by decide +kernel
theorem dX11_plan_90 : decode cX11_plan 90 = .ok (.ireturn, 1) := by decide +kernel
theorem dX11_image_0 : decode cX11_image 0 = .ok (.aload_n 0, 1) := by decide +kernel
theorem dX11_image_1 : decode cX11_image 1 = .ok (.getfield 396, 3) := by decide +kernel
theorem dX11_image_4 : decode cX11_image 4 = .ok (.ifCond .ne 7, 3) := by decide +kernel
theorem dX11_image_7 : decode cX11_image 7 = .ok (.iconst 0, 1) := by decide +kernel
theorem dX11_image_8 : decode cX11_image 8 = .ok (.goto 14, 3) := by decide +kernel
theorem dX11_image_11 : decode cX11_image 11 = .ok (.aload_n 0, 1) := by decide +kernel
theorem dX11_image_12 : decode cX11_image 12 = .ok (.getfield 60, 3) := by decide +kernel
theorem dX11_image_15 : decode cX11_image 15 = .ok (.aload_n 0, 1) := by decide +kernel
theorem dX11_image_16 : decode cX11_image 16 = .ok (.getfield 396, 3) := by decide +kernel
theorem dX11_image_19 : decode cX11_image 19 = .ok (.iconst 1, 1) := by decide +kernel
theorem dX11_image_20 : decode cX11_image 20 = .ok (.isub, 1) := by decide +kernel
theorem dX11_image_21 : decode cX11_image 21 = .ok (.iaload, 1) := by decide +kernel
theorem dX11_image_22 : decode cX11_image 22 = .ok (.istore 4, 2) := by decide +kernel
theorem dX11_image_24 : decode cX11_image 24 = .ok (.iload_n 1, 1) := by decide +kernel
theorem dX11_image_25 : decode cX11_image 25 = .ok (.iconst 1, 1) := by decide +kernel
theorem dX11_image_26 : decode cX11_image 26 = .ok (.if_icmp .lt 28, 3) := by decide +kernel
theorem dX11_image_29 : decode cX11_image 29 = .ok (.iload_n 1, 1) := by decide +kernel
theorem dX11_image_30 : decode cX11_image 30 = .ok (.ldc_w 395, 3) := by decide +kernel
theorem dX11_image_33 : decode cX11_image 33 = .ok (.if_icmp .gt 21, 3) := by decide +kernel
theorem dX11_image_36 : decode cX11_image 36 = .ok (.iload_n 2, 1) := by decide +kernel
theorem dX11_image_37 : decode cX11_image 37 = .ok (.iconst 1, 1) := by decide +kernel
theorem dX11_image_38 : decode cX11_image 38 = .ok (.if_icmp .lt 16, 3) := by decide +kernel
theorem dX11_image_41 : decode cX11_image 41 = .ok (.iload_n 2, 1) := by decide +kernel
theorem dX11_image_42 : decode cX11_image 42 = .ok (.sipush 1024, 3) := by decide +kernel
theorem dX11_image_45 : decode cX11_image 45 = .ok (.if_icmp .gt 9, 3) := by decide +kernel
theorem dX11_image_48 : decode cX11_image 48 = .ok (.iload_n 1, 1) := by decide +kernel
theorem dX11_image_49 : decode cX11_image 49 = .ok (.iload 4, 2) := by decide +kernel
theorem dX11_image_51 : decode cX11_image 51 = .ok (.if_icmp .gt 5, 3) := by decide +kernel
theorem dX11_image_54 : decode cX11_image 54 = .ok (.iconst (-1), 1) := by decide +kernel
theorem dX11_image_55 : decode cX11_image 55 = .ok (.ireturn, 1) := by decide +kernel
theorem dX11_image_56 : decode cX11_image 56 = .ok (.aload_n 0, 1) := by decide +kernel
theorem dX11_image_57 : decode cX11_image 57 = .ok (.getfield 396, 3) := by decide +kernel
theorem dX11_image_60 : decode cX11_image 60 = .ok (.iconst 4, 1) := by decide +kernel
theorem dX11_image_61 : decode cX11_image 61 = .ok (.if_icmp .ne 6, 3) := by decide +kernel
theorem dX11_image_64 : decode cX11_image 64 = .ok (.bipush (-5), 2) := by decide +kernel
theorem dX11_image_66 : decode cX11_image 66 = .ok (.ireturn, 1) := by decide +kernel
theorem dX11_image_67 : decode cX11_image 67 = .ok (.aload_n 0, 1) := by decide +kernel
theorem dX11_image_68 : decode cX11_image 68 = .ok (.getfield 60, 3) := by decide +kernel
theorem dX11_image_71 : decode cX11_image 71 = .ok (.aload_n 0, 1) := by decide +kernel
theorem dX11_image_72 : decode cX11_image 72 = .ok (.getfield 396, 3) := by decide +kernel
theorem dX11_image_75 : decode cX11_image 75 = .ok (.iload_n 1, 1) := by decide +kernel
theorem dX11_image_76 : decode cX11_image 76 = .ok (.iastore, 1) := by decide +kernel
theorem dX11_image_77 : decode cX11_image 77 = .ok (.aload_n 0, 1) := by decide +kernel
theorem dX11_image_78 : decode cX11_image 78 = .ok (.getfield 63, 3) := by decide +kernel
theorem dX11_image_81 : decode cX11_image 81 = .ok (.aload_n 0, 1) := by decide +kernel
theorem dX11_image_82 : decode cX11_image 82 = .ok (.getfield 396, 3) := by decide +kernel
theorem dX11_image_85 : decode cX11_image 85 = .ok (.iload_n 2, 1) := by decide +kernel
theorem dX11_image_86 : decode cX11_image 86 = .ok (.iastore, 1) := by decide +kernel
theorem dX11_image_87 : decode cX11_image 87 = .ok (.aload_n 0, 1) := by decide +kernel
theorem dX11_image_88 : decode cX11_image 88 = .ok (.getfield 66, 3) := by decide +kernel
theorem dX11_image_91 : decode cX11_image 91 = .ok (.aload_n 0, 1) := by decide +kernel
theorem dX11_image_92 : decode cX11_image 92 = .ok (.getfield 396, 3) := by decide +kernel
theorem dX11_image_95 : decode cX11_image 95 = .ok (.iload_n 3, 1) := by decide +kernel
theorem dX11_image_96 : decode cX11_image 96 = .ok (.iastore, 1) := by decide +kernel
theorem dX11_image_97 : decode cX11_image 97 = .ok (.aload_n 0, 1) := by decide +kernel
theorem dX11_image_98 : decode cX11_image 98 = .ok (.dup, 1) := by decide +kernel
theorem dX11_image_99 : decode cX11_image 99 = .ok (.getfield 396, 3) := by decide +kernel
theorem dX11_image_102 : decode cX11_image 102 = .ok (.iconst 1, 1) := by decide +kernel
theorem dX11_image_103 : decode cX11_image 103 = .ok (.iadd, 1) := by decide +kernel
theorem dX11_image_104 : decode cX11_image 104 = .ok (.putfield 396, 3) := by decide +kernel
theorem dX11_image_107 : decode cX11_image 107 = .ok (.aload_n 0, 1) := by decide +kernel
theorem dX11_image_108 : decode cX11_image 108 = .ok (.getfield 396, 3) := by decide +kernel
theorem dX11_image_111 : decode cX11_image 111 = .ok (.ireturn, 1) := by decide +kernel
theorem dX11_clear_0 : decode cX11_clear 0 = .ok (.aload_n 0, 1) := by decide +kernel
theorem dX11_clear_1 : decode cX11_clear 1 = .ok (.getfield 396, 3) := by decide +kernel
theorem dX11_clear_4 : decode cX11_clear 4 = .ok (.istore_n 1, 1) := by decide +kernel
theorem dX11_clear_5 : decode cX11_clear 5 = .ok (.aload_n 0, 1) := by decide +kernel
theorem dX11_clear_6 : decode cX11_clear 6 = .ok (.iconst 0, 1) := by decide +kernel
theorem dX11_clear_7 : decode cX11_clear 7 = .ok (.putfield 396, 3) := by decide +kernel
theorem dX11_clear_10 : decode cX11_clear 10 = .ok (.iload_n 1, 1) := by decide +kernel
theorem dX11_clear_11 : decode cX11_clear 11 = .ok (.ireturn, 1) := by decide +kernel
theorem dX11_imageByte_0 : decode cX11_imageByte 0 = .ok (.aload_n 0, 1) := by decide +kernel
theorem dX11_imageByte_1 : decode cX11_imageByte 1 = .ok (.getfield 66, 3) := by decide +kernel
theorem dX11_imageByte_4 : decode cX11_imageByte 4 = .ok (.iload_n 1, 1) := by decide +kernel
theorem dX11_imageByte_5 : decode cX11_imageByte 5 = .ok (.iaload, 1) := by decide +kernel
theorem dX11_imageByte_6 : decode cX11_imageByte 6 = .ok (.bipush 7, 2) := by decide +kernel
theorem dX11_imageByte_8 : decode cX11_imageByte 8 = .ok (.iload_n 2, 1) := by decide +kernel
theorem dX11_imageByte_9 : decode cX11_imageByte 9 = .ok (.imul, 1) := by decide +kernel
theorem dX11_imageByte_10 : decode cX11_imageByte 10 = .ok (.iadd, 1) := by decide +kernel
theorem dX11_imageByte_11 : decode cX11_imageByte 11 = .ok (.iload_n 2, 1) := by decide +kernel
theorem dX11_imageByte_12 : decode cX11_imageByte 12 = .ok (.bipush 6, 2) := by decide +kernel
theorem dX11_imageByte_14 : decode cX11_imageByte 14 = .ok (.ishr, 1) := by decide +kernel
theorem dX11_imageByte_15 : decode cX11_imageByte 15 = .ok (.aload_n 0, 1) := by decide +kernel
theorem dX11_imageByte_16 : decode cX11_imageByte 16 = .ok (.getfield 66, 3) := by decide +kernel
theorem dX11_imageByte_19 : decode cX11_imageByte 19 = .ok (.iload_n 1, 1) := by decide +kernel
theorem dX11_imageByte_20 : decode cX11_imageByte 20 = .ok (.iaload, 1) := by decide +kernel
theorem dX11_imageByte_21 : decode cX11_imageByte 21 = .ok (.imul, 1) := by decide +kernel
theorem dX11_imageByte_22 : decode cX11_imageByte 22 = .ok (.iadd, 1) := by decide +kernel
theorem dX11_imageByte_23 : decode cX11_imageByte 23 = .ok (.sipush 255, 3) := by decide +kernel
theorem dX11_imageByte_26 : decode cX11_imageByte 26 = .ok (.iand, 1) := by decide +kernel
theorem dX11_imageByte_27 : decode cX11_imageByte 27 = .ok (.ireturn, 1) := by decide +kernel
theorem dX11_draftPut_0 : decode cX11_draftPut 0 = .ok (.iload_n 3, 1) := by decide +kernel
theorem dX11_draftPut_1 : decode cX11_draftPut 1 = .ok (.iconst 1, 1) := by decide +kernel
theorem dX11_draftPut_2 : decode cX11_draftPut 2 = .ok (.isub, 1) := by decide +kernel
theorem dX11_draftPut_3 : decode cX11_draftPut 3 = .ok (.istore 4, 2) := by decide +kernel
theorem dX11_draftPut_5 : decode cX11_draftPut 5 = .ok (.iload 4, 2) := by decide +kernel
theorem dX11_draftPut_7 : decode cX11_draftPut 7 = .ok (.ifCond .lt 40, 3) := by decide +kernel
theorem dX11_draftPut_10 : decode cX11_draftPut 10 = .ok (.aload_n 0, 1) := by decide +kernel
theorem dX11_draftPut_11 : decode cX11_draftPut 11 = .ok (.getfield 69, 3) := by decide +kernel
theorem dX11_draftPut_14 : decode cX11_draftPut 14 = .ok (.aload_n 0, 1) := by decide +kernel
theorem dX11_draftPut_15 : decode cX11_draftPut 15 = .ok (.getfield 399, 3) := by decide +kernel
theorem dX11_draftPut_18 : decode cX11_draftPut 18 = .ok (.lload_n 1, 1) := by decide +kernel
theorem dX11_draftPut_19 : decode cX11_draftPut 19 = .ok (.bipush 8, 2) := by decide +kernel
theorem dX11_draftPut_21 : decode cX11_draftPut 21 = .ok (.iload 4, 2) := by decide +kernel
theorem dX11_draftPut_23 : decode cX11_draftPut 23 = .ok (.imul, 1) := by decide +kernel
theorem dX11_draftPut_24 : decode cX11_draftPut 24 = .ok (.lshr, 1) := by decide +kernel
theorem dX11_draftPut_25 : decode cX11_draftPut 25 = .ok (.l2i, 1) := by decide +kernel
theorem dX11_draftPut_26 : decode cX11_draftPut 26 = .ok (.sipush 255, 3) := by decide +kernel
theorem dX11_draftPut_29 : decode cX11_draftPut 29 = .ok (.iand, 1) := by decide +kernel
theorem dX11_draftPut_30 : decode cX11_draftPut 30 = .ok (.iastore, 1) := by decide +kernel
theorem dX11_draftPut_31 : decode cX11_draftPut 31 = .ok (.aload_n 0, 1) := by decide +kernel
theorem dX11_draftPut_32 : decode cX11_draftPut 32 = .ok (.dup, 1) := by decide +kernel
theorem dX11_draftPut_33 : decode cX11_draftPut 33 = .ok (.getfield 399, 3) := by decide +kernel
theorem dX11_draftPut_36 : decode cX11_draftPut 36 = .ok (.iconst 1, 1) := by decide +kernel
theorem dX11_draftPut_37 : decode cX11_draftPut 37 = .ok (.iadd, 1) := by decide +kernel
theorem dX11_draftPut_38 : decode cX11_draftPut 38 = .ok (.putfield 399, 3) := by decide +kernel
theorem dX11_draftPut_41 : decode cX11_draftPut 41 = .ok (.iinc 4 (-1), 3) := by decide +kernel
theorem dX11_draftPut_44 : decode cX11_draftPut 44 = .ok (.goto (-39), 3) := by decide +kernel
theorem dX11_draftPut_47 : decode cX11_draftPut 47 = .ok (.return_, 1) := by decide +kernel
theorem dX11_draftKeysOf_0 : decode cX11_draftKeysOf 0 = .ok (.iconst 0, 1) := by decide +kernel
theorem dX11_draftKeysOf_1 : decode cX11_draftKeysOf 1 = .ok (.istore_n 2, 1) := by decide +kernel
theorem dX11_draftKeysOf_2 : decode cX11_draftKeysOf 2 = .ok (.iload_n 2, 1) := by decide +kernel
theorem dX11_draftKeysOf_3 : decode cX11_draftKeysOf 3 = .ok (.bipush 16, 2) := by decide +kernel
theorem dX11_draftKeysOf_5 : decode cX11_draftKeysOf 5 = .ok (.if_icmp .ge 25, 3) := by decide +kernel
theorem dX11_draftKeysOf_8 : decode cX11_draftKeysOf 8 = .ok (.iload_n 1, 1) := by decide +kernel
theorem dX11_draftKeysOf_9 : decode cX11_draftKeysOf 9 = .ok (.iload_n 2, 1) := by decide +kernel
theorem dX11_draftKeysOf_10 : decode cX11_draftKeysOf 10 = .ok (.ishr, 1) := by decide +kernel
theorem dX11_draftKeysOf_11 : decode cX11_draftKeysOf 11 = .ok (.iconst 1, 1) := by decide +kernel
theorem dX11_draftKeysOf_12 : decode cX11_draftKeysOf 12 = .ok (.iand, 1) := by decide +kernel
theorem dX11_draftKeysOf_13 : decode cX11_draftKeysOf 13 = .ok (.iconst 1, 1) := by decide +kernel
theorem dX11_draftKeysOf_14 : decode cX11_draftKeysOf 14 = .ok (.if_icmp .ne 10, 3) := by decide +kernel
theorem dX11_draftKeysOf_17 : decode cX11_draftKeysOf 17 = .ok (.aload_n 0, 1) := by decide +kernel
theorem dX11_draftKeysOf_18 : decode cX11_draftKeysOf 18 = .ok (.iload_n 2, 1) := by decide +kernel
theorem dX11_draftKeysOf_19 : decode cX11_draftKeysOf 19 = .ok (.i2l, 1) := by decide +kernel
theorem dX11_draftKeysOf_20 : decode cX11_draftKeysOf 20 = .ok (.iconst 1, 1) := by decide +kernel
theorem dX11_draftKeysOf_21 : decode cX11_draftKeysOf 21 = .ok (.invokevirtual 402, 3) := by decide +kernel
theorem dX11_draftKeysOf_24 : decode cX11_draftKeysOf 24 = .ok (.iinc 2 1, 3) := by decide +kernel
theorem dX11_draftKeysOf_27 : decode cX11_draftKeysOf 27 = .ok (.goto (-25), 3) := by decide +kernel
theorem dX11_draftKeysOf_30 : decode cX11_draftKeysOf 30 = .ok (.return_, 1) := by decide +kernel
theorem dX11_many_0 : decode cX11_many 0 = .ok (.iconst 0, 1) := by decide +kernel
theorem dX11_many_1 : decode cX11_many 1 = .ok (.istore_n 1, 1) := by decide +kernel
theorem dX11_many_2 : decode cX11_many 2 = .ok (.iconst 0, 1) := by decide +kernel
theorem dX11_many_3 : decode cX11_many 3 = .ok (.istore_n 2, 1) := by decide +kernel
theorem dX11_many_4 : decode cX11_many 4 = .ok (.iload_n 2, 1) := by decide +kernel
theorem dX11_many_5 : decode cX11_many 5 = .ok (.bipush 16, 2) := by decide +kernel
theorem dX11_many_7 : decode cX11_many 7 = .ok (.if_icmp .ge 17, 3) := by decide +kernel
theorem dX11_many_10 : decode cX11_many 10 = .ok (.iload_n 1, 1) := by decide +kernel
theorem dX11_many_11 : decode cX11_many 11 = .ok (.iload_n 0, 1) := by decide +kernel
theorem dX11_many_12 : decode cX11_many 12 = .ok (.iload_n 2, 1) := by decide +kernel
theorem dX11_many_13 : decode cX11_many 13 = .ok (.ishr, 1) := by decide +kernel
theorem dX11_many_14 : decode cX11_many 14 = .ok (.iconst 1, 1) := by decide +kernel
theorem dX11_many_15 : decode cX11_many 15 = .ok (.iand, 1) := by decide +kernel
theorem dX11_many_16 : decode cX11_many 16 = .ok (.iadd, 1) := by decide +kernel
theorem dX11_many_17 : decode cX11_many 17 = .ok (.istore_n 1, 1) := by decide +kernel
theorem dX11_many_18 : decode cX11_many 18 = .ok (.iinc 2 1, 3) := by decide +kernel
theorem dX11_many_21 : decode cX11_many 21 = .ok (.goto (-17), 3) := by decide +kernel
theorem dX11_many_24 : decode cX11_many 24 = .ok (.iload_n 1, 1) := by decide +kernel
theorem dX11_many_25 : decode cX11_many 25 = .ok (.ireturn, 1) := by decide +kernel
theorem dX11_draftDigest_0 : decode cX11_draftDigest 0 = .ok (.aload_n 0, 1) := by decide +kernel
theorem dX11_draftDigest_1 : decode cX11_draftDigest 1 = .ok (.invokevirtual 113, 3) := by decide +kernel
theorem dX11_draftDigest_4 : decode cX11_draftDigest 4 = .ok (.iconst 0, 1) := by decide +kernel
theorem dX11_draftDigest_5 : decode cX11_draftDigest 5 = .ok (.istore_n 1, 1) := by decide +kernel
theorem dX11_draftDigest_6 : decode cX11_draftDigest 6 = .ok (.iload_n 1, 1) := by decide +kernel
theorem dX11_draftDigest_7 : decode cX11_draftDigest 7 = .ok (.aload_n 0, 1) := by decide +kernel
theorem dX11_draftDigest_8 : decode cX11_draftDigest 8 = .ok (.getfield 399, 3) := by decide +kernel
theorem dX11_draftDigest_11 : decode cX11_draftDigest 11 = .ok (.if_icmp .ge 19, 3) := by decide +kernel
theorem dX11_draftDigest_14 : decode cX11_draftDigest 14 = .ok (.aload_n 0, 1) := by decide +kernel
theorem dX11_draftDigest_15 : decode cX11_draftDigest 15 = .ok (.aload_n 0, 1) := by decide +kernel
theorem dX11_draftDigest_16 : decode cX11_draftDigest 16 = .ok (.getfield 69, 3) := by decide +kernel
theorem dX11_draftDigest_19 : decode cX11_draftDigest 19 = .ok (.iload_n 1, 1) := by decide +kernel
theorem dX11_draftDigest_20 : decode cX11_draftDigest 20 = .ok (.iaload, 1) := by decide +kernel
theorem dX11_draftDigest_21 : decode cX11_draftDigest 21 = .ok (.invokevirtual 116, 3) := by decide +kernel
theorem dX11_draftDigest_24 : decode cX11_draftDigest 24 = .ok (.iinc 1 1, 3) := by decide +kernel
theorem dX11_draftDigest_27 : decode cX11_draftDigest 27 = .ok (.goto (-21), 3) := by decide +kernel
theorem dX11_draftDigest_30 : decode cX11_draftDigest 30 = .ok (.aload_n 0, 1) := by decide +kernel
theorem dX11_draftDigest_31 : decode cX11_draftDigest 31 = .ok (.getfield 108, 3) := by decide +kernel
theorem dX11_draftDigest_34 : decode cX11_draftDigest 34 = .ok (.lreturn, 1) := by decide +kernel
theorem dX11_draft_0 : decode cX11_draft 0 = .ok (.iload_n 1, 1) := by decide +kernel
theorem dX11_draft_1 : decode cX11_draft 1 = .ok (.ifCond .lt 24, 3) := by decide +kernel
theorem dX11_draft_4 : decode cX11_draft 4 = .ok (.iload_n 1, 1) := by decide +kernel
theorem dX11_draft_5 : decode cX11_draft 5 = .ok (.iconst 3, 1) := by decide +kernel
theorem dX11_draft_6 : decode cX11_draft 6 = .ok (.if_icmp .gt 19, 3) := by decide +kernel
theorem dX11_draft_9 : decode cX11_draft 9 = .ok (.iload_n 2, 1) := by decide +kernel
theorem dX11_draft_10 : decode cX11_draft 10 = .ok (.iconst 1, 1) := by decide +kernel
theorem dX11_draft_11 : decode cX11_draft 11 = .ok (.if_icmp .lt 14, 3) := by decide +kernel
theorem dX11_draft_14 : decode cX11_draft 14 = .ok (.iload_n 2, 1) := by decide +kernel
theorem dX11_draft_15 : decode cX11_draft 15 = .ok (.ldc_w 395, 3) := by decide +kernel
theorem dX11_draft_18 : decode cX11_draft 18 = .ok (.if_icmp .gt 7, 3) := by decide +kernel
theorem dX11_draft_21 : decode cX11_draft 21 = .ok (.iload_n 3, 1) := by decide +kernel
theorem dX11_draft_22 : decode cX11_draft 22 = .ok (.ifCond .ge 5, 3) := by decide +kernel
theorem dX11_draft_25 : decode cX11_draft 25 = .ok (.iconst (-1), 1) := by decide +kernel
theorem dX11_draft_26 : decode cX11_draft 26 = .ok (.ireturn, 1) := by decide +kernel
theorem dX11_draft_27 : decode cX11_draft 27 = .ok (.aload_n 0, 1) := by decide +kernel
theorem dX11_draft_28 : decode cX11_draft 28 = .ok (.iload_n 1, 1) := by decide +kernel
theorem dX11_draft_29 : decode cX11_draft 29 = .ok (.putfield 72, 3) := by decide +kernel
theorem dX11_draft_32 : decode cX11_draft 32 = .ok (.aload_n 0, 1) := by decide +kernel
theorem dX11_draft_33 : decode cX11_draft 33 = .ok (.iconst 0, 1) := by decide +kernel
theorem dX11_draft_34 : decode cX11_draft 34 = .ok (.putfield 399, 3) := by decide +kernel
theorem dX11_draft_37 : decode cX11_draft 37 = .ok (.aload_n 0, 1) := by decide +kernel
theorem dX11_draft_38 : decode cX11_draft 38 = .ok (.iconst 0, 1) := by decide +kernel
theorem dX11_draft_39 : decode cX11_draft 39 = .ok (.putfield 405, 3) := by decide +kernel
theorem dX11_draft_42 : decode cX11_draft 42 = .ok (.aload_n 0, 1) := by decide +kernel
theorem dX11_draft_43 : decode cX11_draft 43 = .ok (.iload_n 2, 1) := by decide +kernel
theorem dX11_draft_44 : decode cX11_draft 44 = .ok (.i2l, 1) := by decide +kernel
theorem dX11_draft_45 : decode cX11_draft 45 = .ok (.iconst 2, 1) := by decide +kernel
theorem dX11_draft_46 : decode cX11_draft 46 = .ok (.invokevirtual 402, 3) := by decide +kernel
theorem dX11_draft_49 : decode cX11_draft 49 = .ok (.aload_n 0, 1) := by decide +kernel
theorem dX11_draft_50 : decode cX11_draft 50 = .ok (.iload_n 3, 1) := by decide +kernel
theorem dX11_draft_51 : decode cX11_draft 51 = .ok (.i2l, 1) := by decide +kernel
theorem dX11_draft_52 : decode cX11_draft 52 = .ok (.iconst 4, 1) := by decide +kernel
theorem dX11_draft_53 : decode cX11_draft 53 = .ok (.invokevirtual 402, 3) := by decide +kernel
theorem dX11_draft_56 : decode cX11_draft 56 = .ok (.iload_n 1, 1) := by decide +kernel
theorem dX11_draft_57 : decode cX11_draft 57 = .ok (.ifCond .ne 61, 3) := by decide +kernel
theorem dX11_draft_60 : decode cX11_draft 60 = .ok (.iconst 0, 1) := by decide +kernel
theorem dX11_draft_61 : decode cX11_draft 61 = .ok (.istore 4, 2) := by decide +kernel
theorem dX11_draft_63 : decode cX11_draft 63 = .ok (.iload 4, 2) := by decide +kernel
theorem dX11_draft_65 : decode cX11_draft 65 = .ok (.iconst 4, 1) := by decide +kernel
theorem dX11_draft_66 : decode cX11_draft 66 = .ok (.if_icmp .ge 49, 3) := by decide +kernel
theorem dX11_draft_69 : decode cX11_draft 69 = .ok (.aload_n 0, 1) := by decide +kernel
theorem dX11_draft_70 : decode cX11_draft 70 = .ok (.aload_n 0, 1) := by decide +kernel
theorem dX11_draft_71 : decode cX11_draft 71 = .ok (.getfield 57, 3) := by decide +kernel
theorem dX11_draft_74 : decode cX11_draft 74 = .ok (.iload 4, 2) := by decide +kernel
theorem dX11_draft_76 : decode cX11_draft 76 = .ok (.iaload, 1) := by decide +kernel
theorem dX11_draft_77 : decode cX11_draft 77 = .ok (.i2l, 1) := by decide +kernel
theorem dX11_draft_78 : decode cX11_draft 78 = .ok (.iconst 1, 1) := by decide +kernel
theorem dX11_draft_79 : decode cX11_draft 79 = .ok (.invokevirtual 402, 3) := by decide +kernel
theorem dX11_draft_82 : decode cX11_draft 82 = .ok (.aload_n 0, 1) := by decide +kernel
theorem dX11_draft_83 : decode cX11_draft 83 = .ok (.aload_n 0, 1) := by decide +kernel
theorem dX11_draft_84 : decode cX11_draft 84 = .ok (.getfield 54, 3) := by decide +kernel
theorem dX11_draft_87 : decode cX11_draft 87 = .ok (.iload 4, 2) := by decide +kernel
theorem dX11_draft_89 : decode cX11_draft 89 = .ok (.iaload, 1) := by decide +kernel
theorem dX11_draft_90 : decode cX11_draft 90 = .ok (.invokestatic 408, 3) := by decide +kernel
theorem dX11_draft_93 : decode cX11_draft 93 = .ok (.i2l, 1) := by decide +kernel
theorem dX11_draft_94 : decode cX11_draft 94 = .ok (.iconst 1, 1) := by decide +kernel
theorem dX11_draft_95 : decode cX11_draft 95 = .ok (.invokevirtual 402, 3) := by decide +kernel
theorem dX11_draft_98 : decode cX11_draft 98 = .ok (.aload_n 0, 1) := by decide +kernel
theorem dX11_draft_99 : decode cX11_draft 99 = .ok (.aload_n 0, 1) := by decide +kernel
theorem dX11_draft_100 : decode cX11_draft 100 = .ok (.getfield 54, 3) := by decide +kernel
theorem dX11_draft_103 : decode cX11_draft 103 = .ok (.iload 4, 2) := by decide +kernel
theorem dX11_draft_105 : decode cX11_draft 105 = .ok (.iaload, 1) := by decide +kernel
theorem dX11_draft_106 : decode cX11_draft 106 = .ok (.invokevirtual 411, 3) := by decide +kernel
theorem dX11_draft_109 : decode cX11_draft 109 = .ok (.iinc 4 1, 3) := by decide +kernel
theorem dX11_draft_112 : decode cX11_draft 112 = .ok (.goto (-49), 3) := by decide +kernel
theorem dX11_draft_115 : decode cX11_draft 115 = .ok (.goto 144, 3) := by decide +kernel
theorem dX11_draft_118 : decode cX11_draft 118 = .ok (.iload_n 1, 1) := by decide +kernel
theorem dX11_draft_119 : decode cX11_draft 119 = .ok (.iconst 3, 1) := by decide +kernel
theorem dX11_draft_120 : decode cX11_draft 120 = .ok (.if_icmp .ne 111, 3) := by decide +kernel
theorem dX11_draft_123 : decode cX11_draft 123 = .ok (.aload_n 0, 1) := by decide +kernel
theorem dX11_draft_124 : decode cX11_draft 124 = .ok (.aload_n 0, 1) := by decide +kernel
theorem dX11_draft_125 : decode cX11_draft 125 = .ok (.getfield 396, 3) := by decide +kernel
theorem dX11_draft_128 : decode cX11_draft 128 = .ok (.i2l, 1) := by decide +kernel
theorem dX11_draft_129 : decode cX11_draft 129 = .ok (.iconst 1, 1) := by decide +kernel
theorem dX11_draft_130 : decode cX11_draft 130 = .ok (.invokevirtual 402, 3) := by decide +kernel
theorem dX11_draft_133 : decode cX11_draft 133 = .ok (.iconst 0, 1) := by decide +kernel
theorem dX11_draft_134 : decode cX11_draft 134 = .ok (.istore 4, 2) := by decide +kernel
theorem dX11_draft_136 : decode cX11_draft 136 = .ok (.iload 4, 2) := by decide +kernel
theorem dX11_draft_138 : decode cX11_draft 138 = .ok (.aload_n 0, 1) := by decide +kernel
theorem dX11_draft_139 : decode cX11_draft 139 = .ok (.getfield 396, 3) := by decide +kernel
theorem dX11_draft_142 : decode cX11_draft 142 = .ok (.if_icmp .ge 86, 3) := by decide +kernel
theorem dX11_draft_145 : decode cX11_draft 145 = .ok (.aload_n 0, 1) := by decide +kernel
theorem dX11_draft_146 : decode cX11_draft 146 = .ok (.invokevirtual 113, 3) := by decide +kernel
theorem dX11_draft_149 : decode cX11_draft 149 = .ok (.iconst 0, 1) := by decide +kernel
theorem dX11_draft_150 : decode cX11_draft 150 = .ok (.istore 5, 2) := by decide +kernel
theorem dX11_draft_152 : decode cX11_draft 152 = .ok (.iload 5, 2) := by decide +kernel
theorem dX11_draft_154 : decode cX11_draft 154 = .ok (.aload_n 0, 1) := by decide +kernel
theorem dX11_draft_155 : decode cX11_draft 155 = .ok (.getfield 63, 3) := by decide +kernel
theorem dX11_draft_158 : decode cX11_draft 158 = .ok (.iload 4, 2) := by decide +kernel
theorem dX11_draft_160 : decode cX11_draft 160 = .ok (.iaload, 1) := by decide +kernel
theorem dX11_draft_161 : decode cX11_draft 161 = .ok (.if_icmp .ge 21, 3) := by decide +kernel
theorem dX11_draft_164 : decode cX11_draft 164 = .ok (.aload_n 0, 1) := by decide +kernel
theorem dX11_draft_165 : decode cX11_draft 165 = .ok (.aload_n 0, 1) := by decide +kernel
theorem dX11_draft_166 : decode cX11_draft 166 = .ok (.iload 4, 2) := by decide +kernel
theorem dX11_draft_168 : decode cX11_draft 168 = .ok (.iload 5, 2) := by decide +kernel
theorem dX11_draft_170 : decode cX11_draft 170 = .ok (.invokevirtual 414, 3) := by decide +kernel
theorem dX11_draft_173 : decode cX11_draft 173 = .ok (.invokevirtual 116, 3) := by decide +kernel
theorem dX11_draft_176 : decode cX11_draft 176 = .ok (.iinc 5 1, 3) := by decide +kernel
theorem dX11_draft_179 : decode cX11_draft 179 = .ok (.goto (-27), 3) := by decide +kernel
theorem dX11_draft_182 : decode cX11_draft 182 = .ok (.aload_n 0, 1) := by decide +kernel
theorem dX11_draft_183 : decode cX11_draft 183 = .ok (.getfield 108, 3) := by decide +kernel
theorem dX11_draft_186 : decode cX11_draft 186 = .ok (.lstore 5, 2) := by decide +kernel
theorem dX11_draft_188 : decode cX11_draft 188 = .ok (.aload_n 0, 1) := by decide +kernel
theorem dX11_draft_189 : decode cX11_draft 189 = .ok (.aload_n 0, 1) := by decide +kernel
theorem dX11_draft_190 : decode cX11_draft 190 = .ok (.getfield 60, 3) := by decide +kernel
theorem dX11_draft_193 : decode cX11_draft 193 = .ok (.iload 4, 2) := by decide +kernel
theorem dX11_draft_195 : decode cX11_draft 195 = .ok (.iaload, 1) := by decide +kernel
theorem dX11_draft_196 : decode cX11_draft 196 = .ok (.i2l, 1) := by decide +kernel
theorem dX11_draft_197 : decode cX11_draft 197 = .ok (.iconst 2, 1) := by decide +kernel
theorem dX11_draft_198 : decode cX11_draft 198 = .ok (.invokevirtual 402, 3) := by decide +kernel
theorem dX11_draft_201 : decode cX11_draft 201 = .ok (.aload_n 0, 1) := by decide +kernel
theorem dX11_draft_202 : decode cX11_draft 202 = .ok (.aload_n 0, 1) := by decide +kernel
theorem dX11_draft_203 : decode cX11_draft 203 = .ok (.getfield 63, 3) := by decide +kernel
theorem dX11_draft_206 : decode cX11_draft 206 = .ok (.iload 4, 2) := by decide +kernel
theorem dX11_draft_208 : decode cX11_draft 208 = .ok (.iaload, 1) := by decide +kernel
theorem dX11_draft_209 : decode cX11_draft 209 = .ok (.i2l, 1) := by decide +kernel
theorem dX11_draft_210 : decode cX11_draft 210 = .ok (.iconst 2, 1) := by decide +kernel
theorem dX11_draft_211 : decode cX11_draft 211 = .ok (.invokevirtual 402, 3) := by decide +kernel
theorem dX11_draft_214 : decode cX11_draft 214 = .ok (.aload_n 0, 1) := by decide +kernel
theorem dX11_draft_215 : decode cX11_draft 215 = .ok (.lload 5, 2) := by decide +kernel
theorem dX11_draft_217 : decode cX11_draft 217 = .ok (.bipush 8, 2) := by decide +kernel
theorem dX11_draft_219 : decode cX11_draft 219 = .ok (.invokevirtual 402, 3) := by decide +kernel
theorem dX11_draft_222 : decode cX11_draft 222 = .ok (.iinc 4 1, 3) := by decide +kernel
theorem dX11_draft_225 : decode cX11_draft 225 = .ok (.goto (-89), 3) := by decide +kernel
theorem dX11_draft_228 : decode cX11_draft 228 = .ok (.goto 31, 3) := by decide +kernel
theorem dX11_draft_231 : decode cX11_draft 231 = .ok (.aload_n 0, 1) := by decide +kernel
theorem dX11_draft_232 : decode cX11_draft 232 = .ok (.aload_n 0, 1) := by decide +kernel
theorem dX11_draft_233 : decode cX11_draft 233 = .ok (.getfield 75, 3) := by decide +kernel
theorem dX11_draft_236 : decode cX11_draft 236 = .ok (.iload_n 1, 1) := by decide +kernel
theorem dX11_draft_237 : decode cX11_draft 237 = .ok (.iconst 1, 1) := by decide +kernel
theorem dX11_draft_238 : decode cX11_draft 238 = .ok (.iadd, 1) := by decide +kernel
theorem dX11_draft_239 : decode cX11_draft 239 = .ok (.iaload, 1) := by decide +kernel
theorem dX11_draft_240 : decode cX11_draft 240 = .ok (.i2l, 1) := by decide +kernel
theorem dX11_draft_241 : decode cX11_draft 241 = .ok (.iconst 2, 1) := by decide +kernel
theorem dX11_draft_242 : decode cX11_draft 242 = .ok (.invokevirtual 402, 3) := by decide +kernel
theorem dX11_draft_245 : decode cX11_draft 245 = .ok (.aload_n 0, 1) := by decide +kernel
theorem dX11_draft_246 : decode cX11_draft 246 = .ok (.aload_n 0, 1) := by decide +kernel
theorem dX11_draft_247 : decode cX11_draft 247 = .ok (.getfield 78, 3) := by decide +kernel
theorem dX11_draft_250 : decode cX11_draft 250 = .ok (.iload_n 1, 1) := by decide +kernel
theorem dX11_draft_251 : decode cX11_draft 251 = .ok (.iconst 1, 1) := by decide +kernel
theorem dX11_draft_252 : decode cX11_draft 252 = .ok (.iadd, 1) := by decide +kernel
theorem dX11_draft_253 : decode cX11_draft 253 = .ok (.laload, 1) := by decide +kernel
theorem dX11_draft_254 : decode cX11_draft 254 = .ok (.bipush 8, 2) := by decide +kernel
theorem dX11_draft_256 : decode cX11_draft 256 = .ok (.invokevirtual 402, 3) := by decide +kernel
theorem dX11_draft_259 : decode cX11_draft 259 = .ok (.iload_n 1, 1) := by decide +kernel
theorem dX11_draft_260 : decode cX11_draft 260 = .ok (.iconst 2, 1) := by decide +kernel
theorem dX11_draft_261 : decode cX11_draft 261 = .ok (.if_icmp .lt 20, 3) := by decide +kernel
theorem dX11_draft_264 : decode cX11_draft 264 = .ok (.aload_n 0, 1) := by decide +kernel
theorem dX11_draft_265 : decode cX11_draft 265 = .ok (.getfield 75, 3) := by decide +kernel
theorem dX11_draft_268 : decode cX11_draft 268 = .ok (.iload_n 1, 1) := by decide +kernel
theorem dX11_draft_269 : decode cX11_draft 269 = .ok (.iload_n 2, 1) := by decide +kernel
theorem dX11_draft_270 : decode cX11_draft 270 = .ok (.iastore, 1) := by decide +kernel
theorem dX11_draft_271 : decode cX11_draft 271 = .ok (.aload_n 0, 1) := by decide +kernel
theorem dX11_draft_272 : decode cX11_draft 272 = .ok (.getfield 78, 3) := by decide +kernel
theorem dX11_draft_275 : decode cX11_draft 275 = .ok (.iload_n 1, 1) := by decide +kernel
theorem dX11_draft_276 : decode cX11_draft 276 = .ok (.aload_n 0, 1) := by decide +kernel
theorem dX11_draft_277 : decode cX11_draft 277 = .ok (.invokevirtual 417, 3) := by decide +kernel
theorem dX11_draft_280 : decode cX11_draft 280 = .ok (.lastore, 1) := by decide +kernel
theorem dX11_draft_281 : decode cX11_draft 281 = .ok (.aload_n 0, 1) := by decide +kernel
theorem dX11_draft_282 : decode cX11_draft 282 = .ok (.getfield 399, 3) := by decide +kernel
theorem dX11_draft_285 : decode cX11_draft 285 = .ok (.ireturn, 1) := by decide +kernel
theorem dX11_sign_0 : decode cX11_sign 0 = .ok (.aload_n 0, 1) := by decide +kernel
theorem dX11_sign_1 : decode cX11_sign 1 = .ok (.getfield 72, 3) := by decide +kernel
theorem dX11_sign_4 : decode cX11_sign 4 = .ok (.bipush (-2), 2) := by decide +kernel
theorem dX11_sign_6 : decode cX11_sign 6 = .ok (.if_icmp .eq 13, 3) := by decide +kernel
theorem dX11_sign_9 : decode cX11_sign 9 = .ok (.iload_n 1, 1) := by decide +kernel
theorem dX11_sign_10 : decode cX11_sign 10 = .ok (.ifCond .lt 9, 3) := by decide +kernel
theorem dX11_sign_13 : decode cX11_sign 13 = .ok (.iload_n 1, 1) := by decide +kernel
theorem dX11_sign_14 : decode cX11_sign 14 = .ok (.bipush 15, 2) := by decide +kernel
theorem dX11_sign_16 : decode cX11_sign 16 = .ok (.if_icmp .le 5, 3) := by decide +kernel
theorem dX11_sign_19 : decode cX11_sign 19 = .ok (.iconst (-1), 1) := by decide +kernel
theorem dX11_sign_20 : decode cX11_sign 20 = .ok (.ireturn, 1) := by decide +kernel
theorem dX11_sign_21 : decode cX11_sign 21 = .ok (.aload_n 0, 1) := by decide +kernel
theorem dX11_sign_22 : decode cX11_sign 22 = .ok (.invokevirtual 417, 3) := by decide +kernel
theorem dX11_sign_25 : decode cX11_sign 25 = .ok (.lstore_n 2, 1) := by decide +kernel
theorem dX11_sign_26 : decode cX11_sign 26 = .ok (.aload_n 0, 1) := by decide +kernel
theorem dX11_sign_27 : decode cX11_sign 27 = .ok (.iload_n 1, 1) := by decide +kernel
theorem dX11_sign_28 : decode cX11_sign 28 = .ok (.lload_n 2, 1) := by decide +kernel
theorem dX11_sign_29 : decode cX11_sign 29 = .ok (.invokevirtual 266, 3) := by decide +kernel
theorem dX11_sign_32 : decode cX11_sign 32 = .ok (.ifCond .ne 46, 3) := by decide +kernel
theorem dX11_sign_35 : decode cX11_sign 35 = .ok (.aload_n 0, 1) := by decide +kernel
theorem dX11_sign_36 : decode cX11_sign 36 = .ok (.getfield 259, 3) := by decide +kernel
theorem dX11_sign_39 : decode cX11_sign 39 = .ok (.sipush 400, 3) := by decide +kernel
theorem dX11_sign_42 : decode cX11_sign 42 = .ok (.if_icmp .ne 6, 3) := by decide +kernel
theorem dX11_sign_45 : decode cX11_sign 45 = .ok (.bipush (-5), 2) := by decide +kernel
theorem dX11_sign_47 : decode cX11_sign 47 = .ok (.ireturn, 1) := by decide +kernel
theorem dX11_sign_48 : decode cX11_sign 48 = .ok (.aload_n 0, 1) := by decide +kernel
theorem dX11_sign_49 : decode cX11_sign 49 = .ok (.getfield 42, 3) := by decide +kernel
theorem dX11_sign_52 : decode cX11_sign 52 = .ok (.aload_n 0, 1) := by decide +kernel
theorem dX11_sign_53 : decode cX11_sign 53 = .ok (.getfield 259, 3) := by decide +kernel
theorem dX11_sign_56 : decode cX11_sign 56 = .ok (.iload_n 1, 1) := by decide +kernel
theorem dX11_sign_57 : decode cX11_sign 57 = .ok (.iastore, 1) := by decide +kernel
theorem dX11_sign_58 : decode cX11_sign 58 = .ok (.aload_n 0, 1) := by decide +kernel
theorem dX11_sign_59 : decode cX11_sign 59 = .ok (.getfield 45, 3) := by decide +kernel
theorem dX11_sign_62 : decode cX11_sign 62 = .ok (.aload_n 0, 1) := by decide +kernel
theorem dX11_sign_63 : decode cX11_sign 63 = .ok (.getfield 259, 3) := by decide +kernel
theorem dX11_sign_66 : decode cX11_sign 66 = .ok (.lload_n 2, 1) := by decide +kernel
theorem dX11_sign_67 : decode cX11_sign 67 = .ok (.lastore, 1) := by decide +kernel
theorem dX11_sign_68 : decode cX11_sign 68 = .ok (.aload_n 0, 1) := by decide +kernel
theorem dX11_sign_69 : decode cX11_sign 69 = .ok (.dup, 1) := by decide +kernel
theorem dX11_sign_70 : decode cX11_sign 70 = .ok (.getfield 259, 3) := by decide +kernel
theorem dX11_sign_73 : decode cX11_sign 73 = .ok (.iconst 1, 1) := by decide +kernel
theorem dX11_sign_74 : decode cX11_sign 74 = .ok (.iadd, 1) := by decide +kernel
theorem dX11_sign_75 : decode cX11_sign 75 = .ok (.putfield 259, 3) := by decide +kernel
theorem dX11_sign_78 : decode cX11_sign 78 = .ok (.aload_n 0, 1) := by decide +kernel
theorem dX11_sign_79 : decode cX11_sign 79 = .ok (.dup, 1) := by decide +kernel
theorem dX11_sign_80 : decode cX11_sign 80 = .ok (.getfield 405, 3) := by decide +kernel
theorem dX11_sign_83 : decode cX11_sign 83 = .ok (.iconst 1, 1) := by decide +kernel
theorem dX11_sign_84 : decode cX11_sign 84 = .ok (.iload_n 1, 1) := by decide +kernel
theorem dX11_sign_85 : decode cX11_sign 85 = .ok (.ishl, 1) := by decide +kernel
theorem dX11_sign_86 : decode cX11_sign 86 = .ok (.ior, 1) := by decide +kernel
theorem dX11_sign_87 : decode cX11_sign 87 = .ok (.putfield 405, 3) := by decide +kernel
theorem dX11_sign_90 : decode cX11_sign 90 = .ok (.aload_n 0, 1) := by decide +kernel
theorem dX11_sign_91 : decode cX11_sign 91 = .ok (.getfield 405, 3) := by decide +kernel
theorem dX11_sign_94 : decode cX11_sign 94 = .ok (.invokestatic 408, 3) := by decide +kernel
theorem dX11_sign_97 : decode cX11_sign 97 = .ok (.ireturn, 1) := by decide +kernel
theorem dX11_show_0 : decode cX11_show 0 = .ok (.aload_n 0, 1) := by decide +kernel
theorem dX11_show_1 : decode cX11_show 1 = .ok (.getfield 72, 3) := by decide +kernel
theorem dX11_show_4 : decode cX11_show 4 = .ok (.bipush (-2), 2) := by decide +kernel
theorem dX11_show_6 : decode cX11_show 6 = .ok (.if_icmp .ne 5, 3) := by decide +kernel
theorem dX11_show_9 : decode cX11_show 9 = .ok (.iconst (-1), 1) := by decide +kernel
theorem dX11_show_10 : decode cX11_show 10 = .ok (.ireturn, 1) := by decide +kernel
theorem dX11_show_11 : decode cX11_show 11 = .ok (.aload_n 0, 1) := by decide +kernel
theorem dX11_show_12 : decode cX11_show 12 = .ok (.iconst 0, 1) := by decide +kernel
theorem dX11_show_13 : decode cX11_show 13 = .ok (.putfield 121, 3) := by decide +kernel
theorem dX11_show_16 : decode cX11_show 16 = .ok (.aload_n 0, 1) := by decide +kernel
theorem dX11_show_17 : decode cX11_show 17 = .ok (.getfield 17, 3) := by decide +kernel
theorem dX11_show_20 : decode cX11_show 20 = .ok (.iconst 0, 1) := by decide +kernel
theorem dX11_show_21 : decode cX11_show 21 = .ok (.aload_n 0, 1) := by decide +kernel
theorem dX11_show_22 : decode cX11_show 22 = .ok (.getfield 72, 3) := by decide +kernel
theorem dX11_show_25 : decode cX11_show 25 = .ok (.iastore, 1) := by decide +kernel
theorem dX11_show_26 : decode cX11_show 26 = .ok (.aload_n 0, 1) := by decide +kernel
theorem dX11_show_27 : decode cX11_show 27 = .ok (.getfield 17, 3) := by decide +kernel
theorem dX11_show_30 : decode cX11_show 30 = .ok (.iconst 1, 1) := by decide +kernel
theorem dX11_show_31 : decode cX11_show 31 = .ok (.aload_n 0, 1) := by decide +kernel
theorem dX11_show_32 : decode cX11_show 32 = .ok (.getfield 399, 3) := by decide +kernel
theorem dX11_show_35 : decode cX11_show 35 = .ok (.bipush 8, 2) := by decide +kernel
theorem dX11_show_37 : decode cX11_show 37 = .ok (.ishr, 1) := by decide +kernel
theorem dX11_show_38 : decode cX11_show 38 = .ok (.iastore, 1) := by decide +kernel
theorem dX11_show_39 : decode cX11_show 39 = .ok (.aload_n 0, 1) := by decide +kernel
theorem dX11_show_40 : decode cX11_show 40 = .ok (.getfield 17, 3) := by decide +kernel
theorem dX11_show_43 : decode cX11_show 43 = .ok (.iconst 2, 1) := by decide +kernel
theorem dX11_show_44 : decode cX11_show 44 = .ok (.aload_n 0, 1) := by decide +kernel
theorem dX11_show_45 : decode cX11_show 45 = .ok (.getfield 399, 3) := by decide +kernel
theorem dX11_show_48 : decode cX11_show 48 = .ok (.sipush 255, 3) := by decide +kernel
theorem dX11_show_51 : decode cX11_show 51 = .ok (.iand, 1) := by decide +kernel
theorem dX11_show_52 : decode cX11_show 52 = .ok (.iastore, 1) := by decide +kernel
theorem dX11_show_53 : decode cX11_show 53 = .ok (.iconst 0, 1) := by decide +kernel
theorem dX11_show_54 : decode cX11_show 54 = .ok (.istore_n 1, 1) := by decide +kernel
theorem dX11_show_55 : decode cX11_show 55 = .ok (.iload_n 1, 1) := by decide +kernel
theorem dX11_show_56 : decode cX11_show 56 = .ok (.aload_n 0, 1) := by decide +kernel
theorem dX11_show_57 : decode cX11_show 57 = .ok (.getfield 399, 3) := by decide +kernel
theorem dX11_show_60 : decode cX11_show 60 = .ok (.if_icmp .ge 23, 3) := by decide +kernel
theorem dX11_show_63 : decode cX11_show 63 = .ok (.aload_n 0, 1) := by decide +kernel
theorem dX11_show_64 : decode cX11_show 64 = .ok (.getfield 17, 3) := by decide +kernel
theorem dX11_show_67 : decode cX11_show 67 = .ok (.iconst 3, 1) := by decide +kernel
theorem dX11_show_68 : decode cX11_show 68 = .ok (.iload_n 1, 1) := by decide +kernel
theorem dX11_show_69 : decode cX11_show 69 = .ok (.iadd, 1) := by decide +kernel
theorem dX11_show_70 : decode cX11_show 70 = .ok (.aload_n 0, 1) := by decide +kernel
theorem dX11_show_71 : decode cX11_show 71 = .ok (.getfield 69, 3) := by decide +kernel
theorem dX11_show_74 : decode cX11_show 74 = .ok (.iload_n 1, 1) := by decide +kernel
theorem dX11_show_75 : decode cX11_show 75 = .ok (.iaload, 1) := by decide +kernel
theorem dX11_show_76 : decode cX11_show 76 = .ok (.iastore, 1) := by decide +kernel
theorem dX11_show_77 : decode cX11_show 77 = .ok (.iinc 1 1, 3) := by decide +kernel
theorem dX11_show_80 : decode cX11_show 80 = .ok (.goto (-25), 3) := by decide +kernel
theorem dX11_show_83 : decode cX11_show 83 = .ok (.aload_n 0, 1) := by decide +kernel
theorem dX11_show_84 : decode cX11_show 84 = .ok (.iconst 3, 1) := by decide +kernel
theorem dX11_show_85 : decode cX11_show 85 = .ok (.aload_n 0, 1) := by decide +kernel
theorem dX11_show_86 : decode cX11_show 86 = .ok (.getfield 399, 3) := by decide +kernel
theorem dX11_show_89 : decode cX11_show 89 = .ok (.iadd, 1) := by decide +kernel
theorem dX11_show_90 : decode cX11_show 90 = .ok (.putfield 121, 3) := by decide +kernel
theorem dX11_show_93 : decode cX11_show 93 = .ok (.aload_n 0, 1) := by decide +kernel
theorem dX11_show_94 : decode cX11_show 94 = .ok (.getfield 17, 3) := by decide +kernel
theorem dX11_show_97 : decode cX11_show 97 = .ok (.aload_n 0, 1) := by decide +kernel
theorem dX11_show_98 : decode cX11_show 98 = .ok (.getfield 121, 3) := by decide +kernel
theorem dX11_show_101 : decode cX11_show 101 = .ok (.aload_n 0, 1) := by decide +kernel
theorem dX11_show_102 : decode cX11_show 102 = .ok (.getfield 405, 3) := by decide +kernel
theorem dX11_show_105 : decode cX11_show 105 = .ok (.invokestatic 408, 3) := by decide +kernel
theorem dX11_show_108 : decode cX11_show 108 = .ok (.iastore, 1) := by decide +kernel
theorem dX11_show_109 : decode cX11_show 109 = .ok (.aload_n 0, 1) := by decide +kernel
theorem dX11_show_110 : decode cX11_show 110 = .ok (.dup, 1) := by decide +kernel
theorem dX11_show_111 : decode cX11_show 111 = .ok (.getfield 121, 3) := by decide +kernel
theorem dX11_show_114 : decode cX11_show 114 = .ok (.iconst 1, 1) := by decide +kernel
theorem dX11_show_115 : decode cX11_show 115 = .ok (.iadd, 1) := by decide +kernel
theorem dX11_show_116 : decode cX11_show 116 = .ok (.putfield 121, 3) := by decide +kernel
theorem dX11_show_119 : decode cX11_show 119 = .ok (.iconst 0, 1) := by decide +kernel
theorem dX11_show_120 : decode cX11_show 120 = .ok (.istore_n 1, 1) := by decide +kernel
theorem dX11_show_121 : decode cX11_show 121 = .ok (.iload_n 1, 1) := by decide +kernel
theorem dX11_show_122 : decode cX11_show 122 = .ok (.bipush 16, 2) := by decide +kernel
theorem dX11_show_124 : decode cX11_show 124 = .ok (.if_icmp .ge 41, 3) := by decide +kernel
theorem dX11_show_127 : decode cX11_show 127 = .ok (.aload_n 0, 1) := by decide +kernel
theorem dX11_show_128 : decode cX11_show 128 = .ok (.getfield 405, 3) := by decide +kernel
theorem dX11_show_131 : decode cX11_show 131 = .ok (.iload_n 1, 1) := by decide +kernel
theorem dX11_show_132 : decode cX11_show 132 = .ok (.ishr, 1) := by decide +kernel
theorem dX11_show_133 : decode cX11_show 133 = .ok (.iconst 1, 1) := by decide +kernel
theorem dX11_show_134 : decode cX11_show 134 = .ok (.iand, 1) := by decide +kernel
theorem dX11_show_135 : decode cX11_show 135 = .ok (.iconst 1, 1) := by decide +kernel
theorem dX11_show_136 : decode cX11_show 136 = .ok (.if_icmp .ne 23, 3) := by decide +kernel
theorem dX11_show_139 : decode cX11_show 139 = .ok (.aload_n 0, 1) := by decide +kernel
theorem dX11_show_140 : decode cX11_show 140 = .ok (.getfield 17, 3) := by decide +kernel
theorem dX11_show_143 : decode cX11_show 143 = .ok (.aload_n 0, 1) := by decide +kernel
theorem dX11_show_144 : decode cX11_show 144 = .ok (.getfield 121, 3) := by decide +kernel
theorem dX11_show_147 : decode cX11_show 147 = .ok (.iload_n 1, 1) := by decide +kernel
theorem dX11_show_148 : decode cX11_show 148 = .ok (.iastore, 1) := by decide +kernel
theorem dX11_show_149 : decode cX11_show 149 = .ok (.aload_n 0, 1) := by decide +kernel
theorem dX11_show_150 : decode cX11_show 150 = .ok (.dup, 1) := by decide +kernel
theorem dX11_show_151 : decode cX11_show 151 = .ok (.getfield 121, 3) := by decide +kernel
theorem dX11_show_154 : decode cX11_show 154 = .ok (.iconst 1, 1) := by decide +kernel
theorem dX11_show_155 : decode cX11_show 155 = .ok (.iadd, 1) := by decide +kernel
theorem dX11_show_156 : decode cX11_show 156 = .ok (.putfield 121, 3) := by decide +kernel
theorem dX11_show_159 : decode cX11_show 159 = .ok (.iinc 1 1, 3) := by decide +kernel
theorem dX11_show_162 : decode cX11_show 162 = .ok (.goto (-41), 3) := by decide +kernel
theorem dX11_show_165 : decode cX11_show 165 = .ok (.aload_n 0, 1) := by decide +kernel
theorem dX11_show_166 : decode cX11_show 166 = .ok (.getfield 121, 3) := by decide +kernel
theorem dX11_show_169 : decode cX11_show 169 = .ok (.ireturn, 1) := by decide +kernel
theorem dX11_piece_0 : decode cX11_piece 0 = .ok (.iconst 0, 1) := by decide +kernel
theorem dX11_piece_1 : decode cX11_piece 1 = .ok (.istore_n 3, 1) := by decide +kernel
theorem dX11_piece_2 : decode cX11_piece 2 = .ok (.iload_n 3, 1) := by decide +kernel
theorem dX11_piece_3 : decode cX11_piece 3 = .ok (.aload_n 0, 1) := by decide +kernel
theorem dX11_piece_4 : decode cX11_piece 4 = .ok (.getfield 396, 3) := by decide +kernel
theorem dX11_piece_7 : decode cX11_piece 7 = .ok (.if_icmp .ge 113, 3) := by decide +kernel
theorem dX11_piece_10 : decode cX11_piece 10 = .ok (.aload_n 0, 1) := by decide +kernel
theorem dX11_piece_11 : decode cX11_piece 11 = .ok (.getfield 60, 3) := by decide +kernel
theorem dX11_piece_14 : decode cX11_piece 14 = .ok (.iload_n 3, 1) := by decide +kernel
theorem dX11_piece_15 : decode cX11_piece 15 = .ok (.iaload, 1) := by decide +kernel
theorem dX11_piece_16 : decode cX11_piece 16 = .ok (.iload_n 1, 1) := by decide +kernel
theorem dX11_piece_17 : decode cX11_piece 17 = .ok (.if_icmp .ne 97, 3) := by decide +kernel
theorem dX11_piece_20 : decode cX11_piece 20 = .ok (.iload_n 2, 1) := by decide +kernel
theorem dX11_piece_21 : decode cX11_piece 21 = .ok (.ifCond .lt 93, 3) := by decide +kernel
theorem dX11_piece_24 : decode cX11_piece 24 = .ok (.ldc2_w 420, 3) := by decide +kernel
theorem dX11_piece_27 : decode cX11_piece 27 = .ok (.iload_n 2, 1) := by decide +kernel
theorem dX11_piece_28 : decode cX11_piece 28 = .ok (.i2l, 1) := by decide +kernel
theorem dX11_piece_29 : decode cX11_piece 29 = .ok (.lmul, 1) := by decide +kernel
theorem dX11_piece_30 : decode cX11_piece 30 = .ok (.aload_n 0, 1) := by decide +kernel
theorem dX11_piece_31 : decode cX11_piece 31 = .ok (.getfield 63, 3) := by decide +kernel
theorem dX11_piece_34 : decode cX11_piece 34 = .ok (.iload_n 3, 1) := by decide +kernel
theorem dX11_piece_35 : decode cX11_piece 35 = .ok (.iaload, 1) := by decide +kernel
theorem dX11_piece_36 : decode cX11_piece 36 = .ok (.i2l, 1) := by decide +kernel
theorem dX11_piece_37 : decode cX11_piece 37 = .ok (.lcmp, 1) := by decide +kernel
theorem dX11_piece_38 : decode cX11_piece 38 = .ok (.ifCond .ge 76, 3) := by decide +kernel
theorem dX11_piece_41 : decode cX11_piece 41 = .ok (.aload_n 0, 1) := by decide +kernel
theorem dX11_piece_42 : decode cX11_piece 42 = .ok (.getfield 63, 3) := by decide +kernel
theorem dX11_piece_45 : decode cX11_piece 45 = .ok (.iload_n 3, 1) := by decide +kernel
theorem dX11_piece_46 : decode cX11_piece 46 = .ok (.iaload, 1) := by decide +kernel
theorem dX11_piece_47 : decode cX11_piece 47 = .ok (.bipush 64, 2) := by decide +kernel
theorem dX11_piece_49 : decode cX11_piece 49 = .ok (.iload_n 2, 1) := by decide +kernel
theorem dX11_piece_50 : decode cX11_piece 50 = .ok (.imul, 1) := by decide +kernel
theorem dX11_piece_51 : decode cX11_piece 51 = .ok (.isub, 1) := by decide +kernel
theorem dX11_piece_52 : decode cX11_piece 52 = .ok (.istore 4, 2) := by decide +kernel
theorem dX11_piece_54 : decode cX11_piece 54 = .ok (.aload_n 0, 1) := by decide +kernel
theorem dX11_piece_55 : decode cX11_piece 55 = .ok (.iload 4, 2) := by decide +kernel
theorem dX11_piece_57 : decode cX11_piece 57 = .ok (.bipush 64, 2) := by decide +kernel
theorem dX11_piece_59 : decode cX11_piece 59 = .ok (.if_icmp .ge 8, 3) := by decide +kernel
theorem dX11_piece_62 : decode cX11_piece 62 = .ok (.iload 4, 2) := by decide +kernel
theorem dX11_piece_64 : decode cX11_piece 64 = .ok (.goto 5, 3) := by decide +kernel
theorem dX11_piece_67 : decode cX11_piece 67 = .ok (.bipush 64, 2) := by decide +kernel
theorem dX11_piece_69 : decode cX11_piece 69 = .ok (.putfield 121, 3) := by decide +kernel
theorem dX11_piece_72 : decode cX11_piece 72 = .ok (.iconst 0, 1) := by decide +kernel
theorem dX11_piece_73 : decode cX11_piece 73 = .ok (.istore 5, 2) := by decide +kernel
theorem dX11_piece_75 : decode cX11_piece 75 = .ok (.iload 5, 2) := by decide +kernel
theorem dX11_piece_77 : decode cX11_piece 77 = .ok (.aload_n 0, 1) := by decide +kernel
theorem dX11_piece_78 : decode cX11_piece 78 = .ok (.getfield 121, 3) := by decide +kernel
theorem dX11_piece_81 : decode cX11_piece 81 = .ok (.if_icmp .ge 28, 3) := by decide +kernel
theorem dX11_piece_84 : decode cX11_piece 84 = .ok (.aload_n 0, 1) := by decide +kernel
theorem dX11_piece_85 : decode cX11_piece 85 = .ok (.getfield 17, 3) := by decide +kernel
theorem dX11_piece_88 : decode cX11_piece 88 = .ok (.iload 5, 2) := by decide +kernel
theorem dX11_piece_90 : decode cX11_piece 90 = .ok (.aload_n 0, 1) := by decide +kernel
theorem dX11_piece_91 : decode cX11_piece 91 = .ok (.iload_n 3, 1) := by decide +kernel
theorem dX11_piece_92 : decode cX11_piece 92 = .ok (.bipush 64, 2) := by decide +kernel
theorem dX11_piece_94 : decode cX11_piece 94 = .ok (.iload_n 2, 1) := by decide +kernel
theorem dX11_piece_95 : decode cX11_piece 95 = .ok (.imul, 1) := by decide +kernel
theorem dX11_piece_96 : decode cX11_piece 96 = .ok (.iload 5, 2) := by decide +kernel
theorem dX11_piece_98 : decode cX11_piece 98 = .ok (.iadd, 1) := by decide +kernel
theorem dX11_piece_99 : decode cX11_piece 99 = .ok (.invokevirtual 414, 3) := by decide +kernel
theorem dX11_piece_102 : decode cX11_piece 102 = .ok (.iastore, 1) := by decide +kernel
theorem dX11_piece_103 : decode cX11_piece 103 = .ok (.iinc 5 1, 3) := by decide +kernel
theorem dX11_piece_106 : decode cX11_piece 106 = .ok (.goto (-31), 3) := by decide +kernel
theorem dX11_piece_109 : decode cX11_piece 109 = .ok (.aload_n 0, 1) := by decide +kernel
theorem dX11_piece_110 : decode cX11_piece 110 = .ok (.getfield 121, 3) := by decide +kernel
theorem dX11_piece_113 : decode cX11_piece 113 = .ok (.ireturn, 1) := by decide +kernel
theorem dX11_piece_114 : decode cX11_piece 114 = .ok (.iinc 3 1, 3) := by decide +kernel
theorem dX11_piece_117 : decode cX11_piece 117 = .ok (.goto (-115), 3) := by decide +kernel
theorem dX11_piece_120 : decode cX11_piece 120 = .ok (.iconst (-1), 1) := by decide +kernel
theorem dX11_piece_121 : decode cX11_piece 121 = .ok (.ireturn, 1) := by decide +kernel
end
section
/-! the tables' words that every state keeps -/
def z_tb : List Cond := lw_tbl.filter goodWord
theorem z_tb_in {w : Cond} (h : w ∈ lw_tbl) (g : goodWord w = true) : w ∈ z_tb := List.mem_filter.mpr ⟨h, g⟩
theorem z_tb_good {w : Cond} (h : w ∈ z_tb) : (w.onTables && w.keeps) = true ∨ ∃ ty, w = .arrayClass ty := good_of_word (List.mem_filter.mp h).2
def z_T : Nat → List (Nat × Nat)
  | 0 => [(2, 0), (0, 1), (0, 2), (2, 3), (0, 4), (0, 5)]
  | 1 => [(2, 100), (0, 101), (0, 102), (0, 103), (0, 104), (0, 105)]
  | 2 => [(2, 200), (2, 201), (0, 202), (0, 203)]
  | 3 => [(2, 300), (2, 301), (2, 302), (0, 303), (2, 304), (2, 305), (2, 306), (2, 307), (2, 308), (2, 309), (0, 310), (0, 311), (2, 312), (2, 313)]
  | 4 => [(2, 400), (0, 401), (0, 402), (1, 403), (0, 404), (1, 405), (0, 406), (2, 407), (2, 408), (0, 409), (1, 410), (0, 411), (2, 412), (2, 413), (2, 414)]
  | 5 => [(2, 500), (0, 501)]
  | 6 => [(2, 600), (2, 601), (2, 602), (2, 603), (0, 604), (2, 605)]
  | 7 => [(2, 700), (2, 701), (0, 702)]
  | 8 => [(2, 800), (0, 801), (1, 802), (2, 803), (0, 804), (0, 805), (0, 806), (0, 807), (0, 808), (1, 809), (0, 810), (0, 811), (0, 812), (1, 813)]
  | 9 => [(2, 900), (2, 901), (2, 902), (2, 903), (2, 904), (2, 905), (0, 906), (0, 907), (0, 908), (0, 909)]
  | 10 => [(2, 1000), (2, 1001), (2, 1002), (2, 1003), (2, 1004), (2, 1005), (2, 1006)]
  | 11 => [(2, 1100), (0, 1101), (1, 1102), (0, 1103), (0, 1104), (0, 1105), (0, 1106), (0, 1107), (0, 1108), (0, 1109), (1, 1110), (2, 1111), (0, 1112), (2, 1113), (0, 1114), (0, 1115), (0, 1116), (0, 1117), (0, 1118), (1, 1119), (0, 1120), (0, 1121), (0, 1122), (1, 1123), (0, 1124), (2, 1125), (0, 1126), (0, 1127), (0, 1128), (0, 1129), (0, 1130), (0, 1131), (1, 1132), (2, 1133), (2, 1134), (0, 1135), (1, 1136), (0, 1137), (2, 1138), (2, 1139), (2, 1140), (2, 1141), (2, 1142), (0, 1143), (0, 1144), (0, 1145), (0, 1146), (2, 1147), (0, 1148), (0, 1149), (0, 1150), (0, 1151), (0, 1152), (0, 1153), (1, 1154), (2, 1155), (0, 1156), (0, 1157), (0, 1158), (0, 1159), (0, 1160), (0, 1161), (1, 1162), (2, 1163), (2, 1164), (0, 1165), (2, 1166), (2, 1167), (2, 1168), (2, 1169), (0, 1170), (0, 1171), (0, 1172), (2, 1173), (2, 1174)]
  | _ => []
/-! the store: its shape (addresses, kinds, lengths, references, references in rows, size) and its data (ints, longs of fields by key and address; rows of ints and longs by address and place) -/
abbrev z_G : Type := List Nat × (Nat → Nat) × (Nat → Nat) × (Nat → Nat → Nat) × (Nat → Nat → Nat) × Nat
abbrev z_D : Type := (Nat → Nat → Int32) × (Nat → Nat → Int64) × (Nat → Nat → Int32) × (Nat → Nat → Int64)
def z_L (G : z_G) : List Nat := G.1
def z_K (G : z_G) (a : Nat) : Nat := G.2.1 a
def z_N (G : z_G) (a : Nat) : Nat := G.2.2.1 a
def z_R (G : z_G) (k a : Nat) : Nat := G.2.2.2.1 k a
def z_A (G : z_G) (a j : Nat) : Nat := G.2.2.2.2.1 a j
def z_Z (G : z_G) : Nat := G.2.2.2.2.2
def z_I (D : z_D) (k a : Nat) : Int32 := D.1 k a
def z_J (D : z_D) (k a : Nat) : Int64 := D.2.1 k a
def z_U (D : z_D) (a j : Nat) : Int32 := D.2.2.1 a j
def z_Y (D : z_D) (a j : Nat) : Int64 := D.2.2.2 a j
def z_up {α : Type} (f : Nat → Nat → α) (k a : Nat) (v : α) : Nat → Nat → α := fun k' a' => if k' = k ∧ a' = a then v else f k' a'
def z_sI (D : z_D) (k a : Nat) (v : Int32) : z_D := (z_up D.1 k a v, D.2)
def z_sJ (D : z_D) (k a : Nat) (v : Int64) : z_D := (D.1, z_up D.2.1 k a v, D.2.2)
def z_sU (D : z_D) (a j : Nat) (v : Int32) : z_D := (D.1, D.2.1, z_up D.2.2.1 a j v, D.2.2.2)
def z_sY (D : z_D) (a j : Nat) (v : Int64) : z_D := (D.1, D.2.1, D.2.2.1, z_up D.2.2.2 a j v)
def z_sR (G : z_G) (k a b : Nat) : z_G := (G.1, G.2.1, G.2.2.1, z_up G.2.2.2.1 k a b, G.2.2.2.2)
def z_sA (G : z_G) (a j b : Nat) : z_G := (G.1, G.2.1, G.2.2.1, G.2.2.2.1, z_up G.2.2.2.2.1 a j b, G.2.2.2.2.2)
theorem z_up_at {α : Type} (f : Nat → Nat → α) (k a : Nat) (v : α) (k' a' : Nat) : z_up f k a v k' a' = if k' = k ∧ a' = a then v else f k' a' := rfl
theorem z_I_sI (D : z_D) (k a : Nat) (v : Int32) (k' a' : Nat) : z_I (z_sI D k a v) k' a' = if k' = k ∧ a' = a then v else z_I D k' a' := rfl
theorem z_I_sJ (D : z_D) (k a : Nat) (v : Int64) (k' a' : Nat) : z_I (z_sJ D k a v) k' a' = z_I D k' a' := rfl
theorem z_I_sU (D : z_D) (k a : Nat) (v : Int32) (k' a' : Nat) : z_I (z_sU D k a v) k' a' = z_I D k' a' := rfl
theorem z_I_sY (D : z_D) (k a : Nat) (v : Int64) (k' a' : Nat) : z_I (z_sY D k a v) k' a' = z_I D k' a' := rfl
theorem z_J_sJ (D : z_D) (k a : Nat) (v : Int64) (k' a' : Nat) : z_J (z_sJ D k a v) k' a' = if k' = k ∧ a' = a then v else z_J D k' a' := rfl
theorem z_J_sI (D : z_D) (k a : Nat) (v : Int32) (k' a' : Nat) : z_J (z_sI D k a v) k' a' = z_J D k' a' := rfl
theorem z_J_sU (D : z_D) (k a : Nat) (v : Int32) (k' a' : Nat) : z_J (z_sU D k a v) k' a' = z_J D k' a' := rfl
theorem z_J_sY (D : z_D) (k a : Nat) (v : Int64) (k' a' : Nat) : z_J (z_sY D k a v) k' a' = z_J D k' a' := rfl
theorem z_U_sU (D : z_D) (k a : Nat) (v : Int32) (k' a' : Nat) : z_U (z_sU D k a v) k' a' = if k' = k ∧ a' = a then v else z_U D k' a' := rfl
theorem z_U_sI (D : z_D) (k a : Nat) (v : Int32) (k' a' : Nat) : z_U (z_sI D k a v) k' a' = z_U D k' a' := rfl
theorem z_U_sJ (D : z_D) (k a : Nat) (v : Int64) (k' a' : Nat) : z_U (z_sJ D k a v) k' a' = z_U D k' a' := rfl
theorem z_U_sY (D : z_D) (k a : Nat) (v : Int64) (k' a' : Nat) : z_U (z_sY D k a v) k' a' = z_U D k' a' := rfl
theorem z_Y_sY (D : z_D) (k a : Nat) (v : Int64) (k' a' : Nat) : z_Y (z_sY D k a v) k' a' = if k' = k ∧ a' = a then v else z_Y D k' a' := rfl
theorem z_Y_sI (D : z_D) (k a : Nat) (v : Int32) (k' a' : Nat) : z_Y (z_sI D k a v) k' a' = z_Y D k' a' := rfl
theorem z_Y_sJ (D : z_D) (k a : Nat) (v : Int64) (k' a' : Nat) : z_Y (z_sJ D k a v) k' a' = z_Y D k' a' := rfl
theorem z_Y_sU (D : z_D) (k a : Nat) (v : Int32) (k' a' : Nat) : z_Y (z_sU D k a v) k' a' = z_Y D k' a' := rfl
/-! what is fixed over a whole run: where the classes and fields are, the classes of the rows, the size of the heap at the start, the heap at the start, the two static rows -/
abbrev z_Q : Type := va_G × (ClassId × ClassId × ClassId) × Nat × Heap × Nat × Nat
abbrev z_b (q : z_Q) : Nat := q.2.2.1
abbrev z_h (q : z_Q) : Heap := q.2.2.2.1
def z_ty (q : z_Q) : List (ClassId × FieldType) := [(q.2.1.1, .int), (q.2.1.2.1, .long), (q.2.1.2.2, .object "FlashTrust$Shelf")]
/-- an address of the store is counted from the heap's size at the start; 0 is null -/
def z_w (q : z_Q) (a : Nat) : Nat := z_b q - 1 + a
def z_o (q : z_Q) (n : Nat) : Option Nat := if n = 0 then none else some (z_w q n)
def z_fv (q0 : z_Q) (G : z_G) (D : z_D) (a : Nat) (q : Nat × Nat) : Value := match q.1 with
  | 0 => .int (z_I D q.2 a)
  | 1 => .long (z_J D q.2 a)
  | _ => va_rf (z_o q0 (z_R G q.2 a))
/-- an object's kind is 100 and its class's number; 1, 2, 3: rows of ints, longs, references -/
def z_c (q : z_Q) (G : z_G) (D : z_D) (a : Nat) : va_E :=
  if 100 ≤ z_K G a then .inr (z_K G a - 100, (z_T (z_K G a - 100)).map (z_fv q G D a))
  else if z_K G a = 1 then .inl (q.2.1.1, z_N G a, .inl (z_U D a))
  else if z_K G a = 2 then .inl (q.2.1.2.1, z_N G a, .inr (.inl (z_Y D a)))
  else .inl (q.2.1.2.2, z_N G a, .inr (.inr (.inr (.inr (fun j => z_o q (z_A G a j))))))
theorem z_c_ob {q : z_Q} {G : z_G} {D : z_D} {a ci : Nat} (h : z_K G a = 100 + ci) : z_c q G D a = .inr (ci, (z_T ci).map (z_fv q G D a)) := by
  unfold z_c
  rw [h, if_pos (Nat.le_add_right _ _), Nat.add_sub_cancel_left]
theorem z_c_1 {q : z_Q} {G : z_G} {D : z_D} {a : Nat} (h : z_K G a = 1) : z_c q G D a = .inl (q.2.1.1, z_N G a, .inl (z_U D a)) := by
  unfold z_c
  rw [h]; rfl
theorem z_c_2 {q : z_Q} {G : z_G} {D : z_D} {a : Nat} (h : z_K G a = 2) : z_c q G D a = .inl (q.2.1.2.1, z_N G a, .inr (.inl (z_Y D a))) := by
  unfold z_c
  rw [h]; rfl
theorem z_c_3 {q : z_Q} {G : z_G} {D : z_D} {a : Nat} (h : z_K G a = 3) : z_c q G D a = .inl (q.2.1.2.2, z_N G a, .inr (.inr (.inr (.inr (fun j => z_o q (z_A G a j)))))) := by
  unfold z_c
  rw [h]; rfl
def z_ok (G : z_G) : Prop := (∀ a ∈ z_L G, 1 ≤ a) ∧ (z_L G).Nodup ∧ ∀ a, z_K G a ≠ 0 → a ∈ z_L G
def z_aL (q : z_Q) (G : z_G) : List Nat := (z_L G).map (z_w q)
def z_ce (q : z_Q) (G : z_G) (D : z_D) (A : Nat) : va_E := z_c q G D (A - (z_b q - 1))
theorem z_ce_w {q : z_Q} {G : z_G} {D : z_D} {a : Nat} : z_ce q G D (z_w q a) = z_c q G D a := by
  unfold z_ce z_w
  rw [Nat.add_sub_cancel_left]
theorem z_w_inj {q : z_Q} {a b : Nat} (h : z_w q a = z_w q b) : a = b := by
  unfold z_w at h
  omega
def z_Rel (q : z_Q) (G : z_G) (D : z_D) (H : Heap) : Prop := va_P q.1 vwCl (va_pl (z_aL q G) (z_ce q G D)) H ∧ z_ok G ∧ (0 < z_b q ∧ z_b q ≤ H.size) ∧ (∀ a, a < z_b q → H[a]? = (z_h q)[a]?) ∧ H.size = z_w q (z_Z G)
def z_nw : List Cond := [(Jvm.Cond.methodLinkNest "FlashTrust" (35 : Nat) ({ cls := "FlashTrust$Signatures", name := "<init>", desc := "()V" } : Jvm.MethodName) "FlashTrust"),
  (Jvm.Cond.fieldLinkNest "FlashTrust$Maker" (9 : Nat) "FlashTrust" "FACTORY_KEYS" "[I" "FlashTrust"),
  (Jvm.Cond.castable "[I" "java/lang/Cloneable"),
  (Jvm.Cond.fieldLinkNest "FlashTrust$Maker" (23 : Nat) "FlashTrust" "FACTORY_THRESHOLDS" "[I" "FlashTrust"),
  (Jvm.Cond.methodLinkNest "FlashTrust$Shelf" (11 : Nat) ({ cls := "FlashTrust$Paper", name := "<init>", desc := "()V" } : Jvm.MethodName) "FlashTrust"),
  (Jvm.Cond.methodLinkNest "FlashTrust$Entry" (11 : Nat) ({ cls := "FlashTrust$Paper", name := "<init>", desc := "()V" } : Jvm.MethodName) "FlashTrust"),
  (Jvm.Cond.fieldLinkNest "FlashTrust$Paper" (53 : Nat) "FlashTrust" "FACTORY_KEYS" "[I" "FlashTrust"),
  (Jvm.Cond.fieldLinkNest "FlashTrust$Paper" (56 : Nat) "FlashTrust" "FACTORY_THRESHOLDS" "[I" "FlashTrust"),
  (Jvm.Cond.methodLinkNest "FlashTrust$Update" (11 : Nat) ({ cls := "FlashTrust$Paper", name := "<init>", desc := "()V" } : Jvm.MethodName) "FlashTrust")]
def z_f1 (j : Nat) : Value := .int (match j with | 0 => 7 | 1 => 8 | 2 => 16 | _ => 96)
def z_f2 (j : Nat) : Value := .int (match j with | 0 => 2 | 1 => 1 | 2 => 1 | _ => 2)
/-- what the start gives beside the words that every state keeps -/
def z_St (q : z_Q) (U : State) : Prop := (∀ w ∈ z_nw, va_Nw w U) ∧ va_AO "FlashTrust$Shelf" U ∧
  (va_Z "FlashTrust" "FACTORY_KEYS" "[I" (.ref q.2.2.2.2.1) (fun a => z_b q ≤ a) U (z_h q) ∧ va_T .int q.2.2.2.2.1 4 z_f1 (fun a => z_b q ≤ a) U (z_h q)) ∧
  (va_Z "FlashTrust" "FACTORY_THRESHOLDS" "[I" (.ref q.2.2.2.2.2) (fun a => z_b q ≤ a) U (z_h q) ∧ va_T .int q.2.2.2.2.2 4 z_f2 (fun a => z_b q ≤ a) U (z_h q)) ∧ 0 < z_b q
theorem z_nw_on : ∀ w ∈ z_nw, w.onTables = true := by
  intro w hw
  simp only [z_nw, List.mem_cons, List.not_mem_nil, or_false] at hw
  rcases hw with rfl | rfl | rfl | rfl | rfl | rfl | rfl | rfl | rfl <;> rfl
theorem z_nw_warm {s U : State} (hW : s.WarmedH U.vm) : ∀ w ∈ z_nw, va_Nw w s → va_Nw w U := by
  intro w hw
  simp only [z_nw, List.mem_cons, List.not_mem_nil, or_false] at hw
  rcases hw with rfl | rfl | rfl | rfl | rfl | rfl | rfl | rfl | rfl <;> intro h <;> first | exact va_Nw.warmF hW h | exact va_Nw.warmM hW h | exact va_Nw.warmC hW h
theorem z_St.warm {q : z_Q} {s U : State} (hW : s.WarmedH U.vm) (h : z_St q s) : z_St q U :=
  ⟨fun w hw => z_nw_warm hW w hw (h.1 w hw), h.2.1.moved hW.alike, ⟨h.2.2.1.1.moved hW.alike, h.2.2.1.2.moved hW.alike⟩, ⟨h.2.2.2.1.1.moved hW.alike, h.2.2.2.1.2.moved hW.alike⟩, h.2.2.2.2⟩
theorem z_St.same {q : z_Q} {s U : State} (e : s.vm = U.vm) (h : z_St q s) : z_St q U :=
  have ha : s.vm.Alike U.vm := e ▸ Vm.Alike.refl s.vm
  ⟨fun w hw => (h.1 w hw).same (z_nw_on w hw) e, h.2.1.moved ha, ⟨h.2.2.1.1.moved ha, h.2.2.1.2.moved ha⟩, ⟨h.2.2.2.1.1.moved ha, h.2.2.2.1.2.moved ha⟩, h.2.2.2.2⟩
abbrev z_X : Type := Program × Launch × Env × Room × State × MethodId × Array Value × List Frame × Method × Code
abbrev x_p (X : z_X) : Program := X.1
abbrev x_l (X : z_X) : Launch := X.2.1
abbrev x_e (X : z_X) : Env := X.2.2.1
abbrev x_R (X : z_X) : Room := X.2.2.2.1
abbrev x_s (X : z_X) : State := X.2.2.2.2.1
abbrev x_m (X : z_X) : MethodId := X.2.2.2.2.2.1
abbrev x_a (X : z_X) : Array Value := X.2.2.2.2.2.2.1
abbrev x_b (X : z_X) : List Frame := X.2.2.2.2.2.2.2.1
abbrev x_h (X : z_X) : Method := X.2.2.2.2.2.2.2.2.1
abbrev x_c (X : z_X) : Code := X.2.2.2.2.2.2.2.2.2
abbrev z_W (X : z_X) (H : Heap) (locs : List Loc) (k n : Nat) (Q : State → Prop) (g : JFrame) : Prop := W (x_p X) (x_l X) (x_e X) (x_R X) (x_s X) (x_m X) (x_a X) (x_b X) (x_h X) (x_c X) H locs k n Q g
/-- from here the method comes to Q -/
def z_V (q : z_Q) (X : z_X) (nL : Nat) (Q : State → Prop) (k n : Nat) (G : z_G) (D : z_D) (pc : Nat) (lv : List (Nat × Value)) (st : List Value) : Prop :=
  ∀ (H : Heap) (locs : List Loc) (ls : Array Slot), z_Rel q G D H → (∀ l ∈ locs, z_b q ≤ l.base) → lv_has ls nL lv → z_W X H locs k n Q (F0 (x_m X) pc ls st)
/-- what a method's body stands on -/
def z_O (q : z_Q) (X : z_X) (cc : ByteArray) (nL : Nat) (own nm : String) (ret : Option FieldType) : Prop :=
  (x_p X).tables.exec = Jvm.exec ∧ (x_c X).code = cc ∧ (x_h X).sig.returnType = ret ∧ (x_c X).maxLocals = nL ∧ (x_s X).vm.findClass own = some (x_m X).cls ∧ (∀ w ∈ z_tb, w.before (x_a X) (x_s X) = true) ∧ (x_h X).locks = false ∧ va_K q.1 vwCl (z_ty q) (x_s X) ∧ z_St q (x_s X) ∧ (x_h X).name = nm ∧ z_b q ≤ (x_s X).heap.size ∧ (∀ a, a < z_b q → (x_s X).heap[a]? = (z_h q)[a]?)
section ZO
variable {q : z_Q} {X : z_X} {cc : ByteArray} {nL : Nat} {own nm : String} {ret : Option FieldType}
theorem z_O.ex (o : z_O q X cc nL own nm ret) : (x_p X).tables.exec = Jvm.exec := o.1
theorem z_O.cd (o : z_O q X cc nL own nm ret) : (x_c X).code = cc := o.2.1
theorem z_O.rt (o : z_O q X cc nL own nm ret) : (x_h X).sig.returnType = ret := o.2.2.1
theorem z_O.ml (o : z_O q X cc nL own nm ret) : (x_c X).maxLocals = nL := o.2.2.2.1
theorem z_O.ow (o : z_O q X cc nL own nm ret) : (x_s X).vm.findClass own = some (x_m X).cls := o.2.2.2.2.1
theorem z_O.ts (o : z_O q X cc nL own nm ret) : ∀ w ∈ z_tb, w.before (x_a X) (x_s X) = true := o.2.2.2.2.2.1
theorem z_O.tw (o : z_O q X cc nL own nm ret) {w : Cond} (h : w ∈ lw_tbl) (g : goodWord w = true) : w.before (x_a X) (x_s X) = true := o.ts w (z_tb_in h g)
theorem z_O.lk (o : z_O q X cc nL own nm ret) : (x_h X).locks = false := o.2.2.2.2.2.2.1
theorem z_O.kn (o : z_O q X cc nL own nm ret) : va_K q.1 vwCl (z_ty q) (x_s X) := o.2.2.2.2.2.2.2.1
theorem z_O.st (o : z_O q X cc nL own nm ret) : z_St q (x_s X) := o.2.2.2.2.2.2.2.2.1
theorem z_O.na (o : z_O q X cc nL own nm ret) : (x_h X).name = nm := o.2.2.2.2.2.2.2.2.2.1
theorem z_O.bs (o : z_O q X cc nL own nm ret) : z_b q ≤ (x_s X).heap.size := o.2.2.2.2.2.2.2.2.2.2.1
theorem z_O.hp (o : z_O q X cc nL own nm ret) : ∀ a, a < z_b q → (x_s X).heap[a]? = (z_h q)[a]? := o.2.2.2.2.2.2.2.2.2.2.2
end ZO
/-! the relation's own laws -/
theorem z_nodup_D {A : Nat → Prop} {L : List Nat} {f : Nat → va_E} (h : L.Nodup) (hA : ∀ a ∈ L, A a) : va_D A (va_pl L f) := by
  refine ⟨fun i j x y hi hj hxy => ?_, fun k x hk => ?_⟩
  · simp only [va_pl, List.getElem?_map] at hi hj
    cases h1 : L[i]? with
    | none => rw [h1] at hi; cases hi
    | some a =>
      cases h2 : L[j]? with
      | none => rw [h2] at hj; cases hj
      | some b =>
        rw [h1] at hi; rw [h2] at hj
        cases hi; cases hj
        have hxy : a = b := hxy
        subst hxy
        obtain ⟨l1, e1⟩ := List.getElem?_eq_some_iff.mp h1
        obtain ⟨l2, e2⟩ := List.getElem?_eq_some_iff.mp h2
        rcases Nat.lt_trichotomy i j with hlt | rfl | hlt
        · exact absurd (e1.trans e2.symm) (List.pairwise_iff_getElem.mp h i j l1 l2 hlt)
        · rfl
        · exact absurd (e2.trans e1.symm) (List.pairwise_iff_getElem.mp h j i l2 l1 hlt)
  · simp only [va_pl, List.getElem?_map] at hk
    cases h1 : L[k]? with
    | none => rw [h1] at hk; cases hk
    | some a =>
      rw [h1] at hk
      cases hk
      exact hA a (List.mem_of_getElem? h1)
theorem z_Rel.in {q : z_Q} {G : z_G} {D : z_D} {H : Heap} (h : z_Rel q G D H) {a : Nat} (ha : a ∈ z_L G) : z_b q ≤ z_w q a := by
  have h1 := h.2.1.1 a ha
  have h2 := h.2.2.1.1
  unfold z_w
  omega
theorem z_aL_nd {q : z_Q} {G : z_G} (h : (z_L G).Nodup) : (z_aL q G).Nodup := by
  unfold z_aL
  exact List.pairwise_map.mpr (List.Pairwise.imp (fun hne he => hne (z_w_inj he)) h)
theorem z_Rel.D {q : z_Q} {G : z_G} {D : z_D} {H : Heap} (h : z_Rel q G D H) : va_D (fun a => z_b q ≤ a) (va_pl (z_aL q G) (z_ce q G D)) := z_nodup_D (z_aL_nd h.2.1.2.1) (fun a ha => by
  obtain ⟨b, hb, rfl⟩ := List.mem_map.mp ha
  exact h.in hb)
theorem z_Rel.mem {q : z_Q} {G : z_G} {D : z_D} {H : Heap} (h : z_Rel q G D H) {a : Nat} (hK : z_K G a ≠ 0) : a ∈ z_L G := h.2.1.2.2 a hK
theorem z_Rel.memA {q : z_Q} {G : z_G} {D : z_D} {H : Heap} (h : z_Rel q G D H) {a : Nat} (hK : z_K G a ≠ 0) : z_w q a ∈ z_aL q G := List.mem_map.mpr ⟨a, h.mem hK, rfl⟩
theorem z_Rel.get {q : z_Q} {G : z_G} {D : z_D} {H : Heap} (h : z_Rel q G D H) {a : Nat} (hK : z_K G a ≠ 0) : ∃ k : Nat, (va_pl (z_aL q G) (z_ce q G D))[k]? = some (z_w q a, z_c q G D a) := by
  obtain ⟨k, hk⟩ := va_pl_get (X := []) (f := z_ce q G D) (h.memA hK)
  rw [z_ce_w] at hk
  exact ⟨k, hk⟩
theorem z_pl_set {A : Nat → Prop} {q : z_Q} {G : z_G} {D : z_D} {a k : Nat} {e : va_E} (hD : va_D A (va_pl (z_aL q G) (z_ce q G D))) (h : z_w q a ∈ z_aL q G) (hk : (va_pl (z_aL q G) (z_ce q G D))[k]? = some (z_w q a, z_c q G D a)) : (va_pl (z_aL q G) (z_ce q G D)).set k (z_w q a, e) = va_pl (z_aL q G) (va_up (z_ce q G D) (z_w q a) e) := va_pl_set (X := []) hD h (by rw [z_ce_w]; exact hk)
end
section
section ZR
variable {q : z_Q} {X : z_X} {cc : ByteArray} {nL : Nat} {own nm : String} {ret : Option FieldType} {Q : State → Prop} {k n : Nat} {G : z_G} {D : z_D} {pc : Nat} {lv : List (Nat × Value)} {st : List Value}
theorem v_iadd (o : z_O q X cc nL own nm ret) {x y : Int32} (d : decode cc pc = .ok (.iadd, 1)) (h : z_V q X nL Q k n G D (pc + 1) lv (.int (x + y) :: st)) : z_V q X nL Q k n G D pc lv (.int y :: .int x :: st) :=
  fun H locs ls hR hl hv => lv_iadd o.ex o.cd d (h H locs ls hR hl hv)
theorem v_isub (o : z_O q X cc nL own nm ret) {x y : Int32} (d : decode cc pc = .ok (.isub, 1)) (h : z_V q X nL Q k n G D (pc + 1) lv (.int (x - y) :: st)) : z_V q X nL Q k n G D pc lv (.int y :: .int x :: st) :=
  fun H locs ls hR hl hv => lv_isub o.ex o.cd d (h H locs ls hR hl hv)
theorem v_imul (o : z_O q X cc nL own nm ret) {x y : Int32} (d : decode cc pc = .ok (.imul, 1)) (h : z_V q X nL Q k n G D (pc + 1) lv (.int (x * y) :: st)) : z_V q X nL Q k n G D pc lv (.int y :: .int x :: st) :=
  fun H locs ls hR hl hv => lv_imul o.ex o.cd d (h H locs ls hR hl hv)
theorem v_iand (o : z_O q X cc nL own nm ret) {x y : Int32} (d : decode cc pc = .ok (.iand, 1)) (h : z_V q X nL Q k n G D (pc + 1) lv (.int (x &&& y) :: st)) : z_V q X nL Q k n G D pc lv (.int y :: .int x :: st) :=
  fun H locs ls hR hl hv => lv_iand o.ex o.cd d (h H locs ls hR hl hv)
theorem v_ior (o : z_O q X cc nL own nm ret) {x y : Int32} (d : decode cc pc = .ok (.ior, 1)) (h : z_V q X nL Q k n G D (pc + 1) lv (.int (x ||| y) :: st)) : z_V q X nL Q k n G D pc lv (.int y :: .int x :: st) :=
  fun H locs ls hR hl hv => lv_ior o.ex o.cd d (h H locs ls hR hl hv)
theorem v_ixor (o : z_O q X cc nL own nm ret) {x y : Int32} (d : decode cc pc = .ok (.ixor, 1)) (h : z_V q X nL Q k n G D (pc + 1) lv (.int (x ^^^ y) :: st)) : z_V q X nL Q k n G D pc lv (.int y :: .int x :: st) :=
  fun H locs ls hR hl hv => lv_ixor o.ex o.cd d (h H locs ls hR hl hv)
theorem v_ladd (o : z_O q X cc nL own nm ret) {x y : Int64} (d : decode cc pc = .ok (.ladd, 1)) (h : z_V q X nL Q k n G D (pc + 1) lv (.long (x + y) :: st)) : z_V q X nL Q k n G D pc lv (.long y :: .long x :: st) :=
  fun H locs ls hR hl hv => lv_ladd o.ex o.cd d (h H locs ls hR hl hv)
theorem v_lsub (o : z_O q X cc nL own nm ret) {x y : Int64} (d : decode cc pc = .ok (.lsub, 1)) (h : z_V q X nL Q k n G D (pc + 1) lv (.long (x - y) :: st)) : z_V q X nL Q k n G D pc lv (.long y :: .long x :: st) :=
  fun H locs ls hR hl hv => lv_lsub o.ex o.cd d (h H locs ls hR hl hv)
theorem v_lmul (o : z_O q X cc nL own nm ret) {x y : Int64} (d : decode cc pc = .ok (.lmul, 1)) (h : z_V q X nL Q k n G D (pc + 1) lv (.long (x * y) :: st)) : z_V q X nL Q k n G D pc lv (.long y :: .long x :: st) :=
  fun H locs ls hR hl hv => lv_lmul o.ex o.cd d (h H locs ls hR hl hv)
theorem v_land (o : z_O q X cc nL own nm ret) {x y : Int64} (d : decode cc pc = .ok (.land, 1)) (h : z_V q X nL Q k n G D (pc + 1) lv (.long (x &&& y) :: st)) : z_V q X nL Q k n G D pc lv (.long y :: .long x :: st) :=
  fun H locs ls hR hl hv => lv_land o.ex o.cd d (h H locs ls hR hl hv)
theorem v_lor (o : z_O q X cc nL own nm ret) {x y : Int64} (d : decode cc pc = .ok (.lor, 1)) (h : z_V q X nL Q k n G D (pc + 1) lv (.long (x ||| y) :: st)) : z_V q X nL Q k n G D pc lv (.long y :: .long x :: st) :=
  fun H locs ls hR hl hv => lv_lor o.ex o.cd d (h H locs ls hR hl hv)
theorem v_lxor (o : z_O q X cc nL own nm ret) {x y : Int64} (d : decode cc pc = .ok (.lxor, 1)) (h : z_V q X nL Q k n G D (pc + 1) lv (.long (x ^^^ y) :: st)) : z_V q X nL Q k n G D pc lv (.long y :: .long x :: st) :=
  fun H locs ls hR hl hv => lv_lxor o.ex o.cd d (h H locs ls hR hl hv)
theorem v_idiv (o : z_O q X cc nL own nm ret) {x y : Int32} (d : decode cc pc = .ok (.idiv, 1)) (hy : ¬ y = 0) (h : z_V q X nL Q k n G D (pc + 1) lv (.int (x / y) :: st)) : z_V q X nL Q k n G D pc lv (.int y :: .int x :: st) :=
  fun H locs ls hR hl hv => lv_idiv o.ex o.cd d hy (h H locs ls hR hl hv)
theorem v_irem (o : z_O q X cc nL own nm ret) {x y : Int32} (d : decode cc pc = .ok (.irem, 1)) (hy : ¬ y = 0) (h : z_V q X nL Q k n G D (pc + 1) lv (.int (x - x / y * y) :: st)) : z_V q X nL Q k n G D pc lv (.int y :: .int x :: st) :=
  fun H locs ls hR hl hv => lv_irem o.ex o.cd d hy (h H locs ls hR hl hv)
theorem v_ineg (o : z_O q X cc nL own nm ret) {x : Int32} (d : decode cc pc = .ok (.ineg, 1)) (h : z_V q X nL Q k n G D (pc + 1) lv (.int (-x) :: st)) : z_V q X nL Q k n G D pc lv (.int x :: st) :=
  fun H locs ls hR hl hv => lv_ineg o.ex o.cd d (h H locs ls hR hl hv)
theorem v_ishl (o : z_O q X cc nL own nm ret) {x y : Int32} (d : decode cc pc = .ok (.ishl, 1)) (h : z_V q X nL Q k n G D (pc + 1) lv (.int (x <<< (y &&& 31)) :: st)) : z_V q X nL Q k n G D pc lv (.int y :: .int x :: st) :=
  fun H locs ls hR hl hv => lv_ishl o.ex o.cd d (h H locs ls hR hl hv)
theorem v_ishr (o : z_O q X cc nL own nm ret) {x y : Int32} (d : decode cc pc = .ok (.ishr, 1)) (h : z_V q X nL Q k n G D (pc + 1) lv (.int (x >>> (y &&& 31)) :: st)) : z_V q X nL Q k n G D pc lv (.int y :: .int x :: st) :=
  fun H locs ls hR hl hv => lv_ishr o.ex o.cd d (h H locs ls hR hl hv)
theorem v_iushr (o : z_O q X cc nL own nm ret) {x y : Int32} (d : decode cc pc = .ok (.iushr, 1)) (h : z_V q X nL Q k n G D (pc + 1) lv (.int ((x.toUInt32 >>> (y.toUInt32 &&& Int32.toUInt32 31)).toInt32) :: st)) : z_V q X nL Q k n G D pc lv (.int y :: .int x :: st) :=
  fun H locs ls hR hl hv => lv_iushr o.ex o.cd d rfl (h H locs ls hR hl hv)
theorem v_lushr (o : z_O q X cc nL own nm ret) {x : Int64} {y : Int32} (d : decode cc pc = .ok (.lushr, 1)) (h : z_V q X nL Q k n G D (pc + 1) lv (.long ((x.toUInt64 >>> (y.toInt64.toUInt64 &&& Int64.toUInt64 63)).toInt64) :: st)) : z_V q X nL Q k n G D pc lv (.int y :: .long x :: st) :=
  fun H locs ls hR hl hv => lv_lushr o.ex o.cd d rfl (h H locs ls hR hl hv)
theorem v_lshl (o : z_O q X cc nL own nm ret) {x : Int64} {y : Int32} (d : decode cc pc = .ok (.lshl, 1)) (h : z_V q X nL Q k n G D (pc + 1) lv (.long (x <<< (y.toInt64 &&& 63)) :: st)) : z_V q X nL Q k n G D pc lv (.int y :: .long x :: st) :=
  fun H locs ls hR hl hv => lv_lshl o.ex o.cd d rfl (h H locs ls hR hl hv)
theorem v_lshr (o : z_O q X cc nL own nm ret) {x : Int64} {y : Int32} (d : decode cc pc = .ok (.lshr, 1)) (h : z_V q X nL Q k n G D (pc + 1) lv (.long (x >>> (y.toInt64 &&& 63)) :: st)) : z_V q X nL Q k n G D pc lv (.int y :: .long x :: st) :=
  fun H locs ls hR hl hv => lv_lshr o.ex o.cd d rfl (h H locs ls hR hl hv)
theorem v_i2l (o : z_O q X cc nL own nm ret) {x : Int32} (d : decode cc pc = .ok (.i2l, 1)) (h : z_V q X nL Q k n G D (pc + 1) lv (.long x.toInt64 :: st)) : z_V q X nL Q k n G D pc lv (.int x :: st) :=
  fun H locs ls hR hl hv => lv_i2l o.ex o.cd d rfl (h H locs ls hR hl hv)
theorem v_l2i (o : z_O q X cc nL own nm ret) {x : Int64} (d : decode cc pc = .ok (.l2i, 1)) (h : z_V q X nL Q k n G D (pc + 1) lv (.int x.toInt32 :: st)) : z_V q X nL Q k n G D pc lv (.long x :: st) :=
  fun H locs ls hR hl hv => lv_l2i o.ex o.cd d rfl (h H locs ls hR hl hv)
theorem v_lcmp (o : z_O q X cc nL own nm ret) {x y : Int64} (d : decode cc pc = .ok (.lcmp, 1)) (h : z_V q X nL Q k n G D (pc + 1) lv (.int (lg_cmp x y) :: st)) : z_V q X nL Q k n G D pc lv (.long y :: .long x :: st) :=
  fun H locs ls hR hl hv => W.lcmp o.ex o.cd d (h H locs ls hR hl hv)
theorem v_iconst (o : z_O q X cc nL own nm ret) {i : Int} (v : Int32) (d : decode cc pc = .ok (.iconst i, 1)) (hv0 : Int32.ofInt i = v) (h : z_V q X nL Q k n G D (pc + 1) lv (.int v :: st)) : z_V q X nL Q k n G D pc lv (st) :=
  fun H locs ls hR hl hv => lv_iconst o.ex o.cd d hv0 (h H locs ls hR hl hv)
theorem v_bipush (o : z_O q X cc nL own nm ret) {i : Int} (v : Int32) (d : decode cc pc = .ok (.bipush i, 2)) (hv0 : (Int8.ofInt i).toInt32 = v) (h : z_V q X nL Q k n G D (pc + 2) lv (.int v :: st)) : z_V q X nL Q k n G D pc lv (st) :=
  fun H locs ls hR hl hv => lv_bipush o.ex o.cd d hv0 (h H locs ls hR hl hv)
theorem v_sipush (o : z_O q X cc nL own nm ret) {i : Int} (v : Int32) (d : decode cc pc = .ok (.sipush i, 3)) (hv0 : (Int16.ofInt i).toInt32 = v) (h : z_V q X nL Q k n G D (pc + 3) lv (.int v :: st)) : z_V q X nL Q k n G D pc lv (st) :=
  fun H locs ls hR hl hv => lv_sipush o.ex o.cd d hv0 (h H locs ls hR hl hv)
theorem v_lconst (o : z_O q X cc nL own nm ret) {i : Fin 2} (v : Int64) (d : decode cc pc = .ok (.lconst i, 1)) (hv0 : Int64.ofNat (i : Nat) = v) (h : z_V q X nL Q k n G D (pc + 1) lv (.long v :: st)) : z_V q X nL Q k n G D pc lv (st) :=
  fun H locs ls hR hl hv => lv_lconst o.ex o.cd d hv0 (h H locs ls hR hl hv)
theorem v_dup (o : z_O q X cc nL own nm ret) {a : Value} (d : decode cc pc = .ok (.dup, 1)) (hc : a.category = 1) (h : z_V q X nL Q k n G D (pc + 1) lv (a :: a :: st)) : z_V q X nL Q k n G D pc lv (a :: st) :=
  fun H locs ls hR hl hv => lv_dup o.ex o.cd d hc (h H locs ls hR hl hv)
theorem v_dup2 (o : z_O q X cc nL own nm ret) {a b : Value} (d : decode cc pc = .ok (.dup2, 1)) (hc : a.category = 1) (hc2 : b.category = 1) (h : z_V q X nL Q k n G D (pc + 1) lv (a :: b :: a :: b :: st)) : z_V q X nL Q k n G D pc lv (a :: b :: st) :=
  fun H locs ls hR hl hv => lv_dup2_11 o.ex o.cd d hc hc2 (h H locs ls hR hl hv)
theorem v_pop (o : z_O q X cc nL own nm ret) {a : Value} (d : decode cc pc = .ok (.pop, 1)) (hc : a.category = 1) (h : z_V q X nL Q k n G D (pc + 1) lv (st)) : z_V q X nL Q k n G D pc lv (a :: st) :=
  fun H locs ls hR hl hv => lv_pop o.ex o.cd d hc (h H locs ls hR hl hv)
theorem v_iload_n (o : z_O q X cc nL own nm ret) {j : Fin 4} {i : Nat} {x : Int32} (d : decode cc pc = .ok (.iload_n j, 1)) (hi : (j : Nat) = i) (p : Nat) (hp : lv[p]? = some (i, .int x)) (h : z_V q X nL Q k n G D (pc + 1) lv (.int x :: st)) : z_V q X nL Q k n G D pc lv st :=
  fun H locs ls hR hl hv => lv_iload_n o.ex o.cd d hi (lv_at hv p hp) (h H locs ls hR hl hv)
theorem v_iload (o : z_O q X cc nL own nm ret) {i : Nat} {x : Int32} (d : decode cc pc = .ok (.iload i, 2)) (p : Nat) (hp : lv[p]? = some (i, .int x)) (h : z_V q X nL Q k n G D (pc + 2) lv (.int x :: st)) : z_V q X nL Q k n G D pc lv st :=
  fun H locs ls hR hl hv => lv_iload o.ex o.cd d (lv_at hv p hp) (h H locs ls hR hl hv)
theorem v_istore_n (o : z_O q X cc nL own nm ret) {j : Fin 4} {i : Nat} {x : Int32} (lv1 : List (Nat × Value)) (d : decode cc pc = .ok (.istore_n j, 1)) (hi : (j : Nat) = i) (hn : i < nL) (hl1 : (i, Value.int x) :: lv.filter (fun q => !(q.1 == i) && !(q.1 + 1 == i && q.2.category == 2)) = lv1) (h : z_V q X nL Q k n G D (pc + 1) lv1 st) : z_V q X nL Q k n G D pc lv (.int x :: st) :=
  fun H locs ls hR hl hv => lv_istore_n o.ex o.cd d hi hv hn hl1 (fun ls1 hv1 => h H locs ls1 hR hl hv1)
theorem v_istore (o : z_O q X cc nL own nm ret) {i : Nat} {x : Int32} (lv1 : List (Nat × Value)) (d : decode cc pc = .ok (.istore i, 2)) (hn : i < nL) (hl1 : (i, Value.int x) :: lv.filter (fun q => !(q.1 == i) && !(q.1 + 1 == i && q.2.category == 2)) = lv1) (h : z_V q X nL Q k n G D (pc + 2) lv1 st) : z_V q X nL Q k n G D pc lv (.int x :: st) :=
  fun H locs ls hR hl hv => lv_istore o.ex o.cd d hv hn hl1 (fun ls1 hv1 => h H locs ls1 hR hl hv1)
theorem v_lload_n (o : z_O q X cc nL own nm ret) {j : Fin 4} {i : Nat} {x : Int64} (d : decode cc pc = .ok (.lload_n j, 1)) (hi : (j : Nat) = i) (p : Nat) (hp : lv[p]? = some (i, .long x)) (h : z_V q X nL Q k n G D (pc + 1) lv (.long x :: st)) : z_V q X nL Q k n G D pc lv st :=
  fun H locs ls hR hl hv => lv_lload_n o.ex o.cd d hi (lv_at hv p hp) (h H locs ls hR hl hv)
theorem v_lload (o : z_O q X cc nL own nm ret) {i : Nat} {x : Int64} (d : decode cc pc = .ok (.lload i, 2)) (p : Nat) (hp : lv[p]? = some (i, .long x)) (h : z_V q X nL Q k n G D (pc + 2) lv (.long x :: st)) : z_V q X nL Q k n G D pc lv st :=
  fun H locs ls hR hl hv => lv_lload o.ex o.cd d (lv_at hv p hp) (h H locs ls hR hl hv)
theorem v_lstore_n (o : z_O q X cc nL own nm ret) {j : Fin 4} {i : Nat} {x : Int64} (lv1 : List (Nat × Value)) (d : decode cc pc = .ok (.lstore_n j, 1)) (hi : (j : Nat) = i) (hn : i + 1 < nL) (hl1 : (i, Value.long x) :: lv.filter (fun q => !(q.1 == i) && (!(q.1 == i + 1) && !(q.1 + 1 == i && q.2.category == 2))) = lv1) (h : z_V q X nL Q k n G D (pc + 1) lv1 st) : z_V q X nL Q k n G D pc lv (.long x :: st) :=
  fun H locs ls hR hl hv => lv_lstore_n o.ex o.cd d hi hv hn hl1 (fun ls1 hv1 => h H locs ls1 hR hl hv1)
theorem v_lstore (o : z_O q X cc nL own nm ret) {i : Nat} {x : Int64} (lv1 : List (Nat × Value)) (d : decode cc pc = .ok (.lstore i, 2)) (hn : i + 1 < nL) (hl1 : (i, Value.long x) :: lv.filter (fun q => !(q.1 == i) && (!(q.1 == i + 1) && !(q.1 + 1 == i && q.2.category == 2))) = lv1) (h : z_V q X nL Q k n G D (pc + 2) lv1 st) : z_V q X nL Q k n G D pc lv (.long x :: st) :=
  fun H locs ls hR hl hv => lv_lstore o.ex o.cd d hv hn hl1 (fun ls1 hv1 => h H locs ls1 hR hl hv1)
theorem v_aload_n (o : z_O q X cc nL own nm ret) {j : Fin 4} {i : Nat} {x : Nat} (d : decode cc pc = .ok (.aload_n j, 1)) (hi : (j : Nat) = i) (p : Nat) (hp : lv[p]? = some (i, .ref x)) (h : z_V q X nL Q k n G D (pc + 1) lv (.ref x :: st)) : z_V q X nL Q k n G D pc lv st :=
  fun H locs ls hR hl hv => lv_aload_n o.ex o.cd d hi (lv_at hv p hp) (h H locs ls hR hl hv)
theorem v_aload (o : z_O q X cc nL own nm ret) {i : Nat} {x : Nat} (d : decode cc pc = .ok (.aload i, 2)) (p : Nat) (hp : lv[p]? = some (i, .ref x)) (h : z_V q X nL Q k n G D (pc + 2) lv (.ref x :: st)) : z_V q X nL Q k n G D pc lv st :=
  fun H locs ls hR hl hv => lv_aload o.ex o.cd d (lv_at hv p hp) (h H locs ls hR hl hv)
theorem v_astore_n (o : z_O q X cc nL own nm ret) {j : Fin 4} {i : Nat} {x : Nat} (lv1 : List (Nat × Value)) (d : decode cc pc = .ok (.astore_n j, 1)) (hi : (j : Nat) = i) (hn : i < nL) (hl1 : (i, Value.ref x) :: lv.filter (fun q => !(q.1 == i) && !(q.1 + 1 == i && q.2.category == 2)) = lv1) (h : z_V q X nL Q k n G D (pc + 1) lv1 st) : z_V q X nL Q k n G D pc lv (.ref x :: st) :=
  fun H locs ls hR hl hv => lv_astore_n o.ex o.cd d hi hv hn hl1 (fun ls1 hv1 => h H locs ls1 hR hl hv1)
theorem v_astore (o : z_O q X cc nL own nm ret) {i : Nat} {x : Nat} (lv1 : List (Nat × Value)) (d : decode cc pc = .ok (.astore i, 2)) (hn : i < nL) (hl1 : (i, Value.ref x) :: lv.filter (fun q => !(q.1 == i) && !(q.1 + 1 == i && q.2.category == 2)) = lv1) (h : z_V q X nL Q k n G D (pc + 2) lv1 st) : z_V q X nL Q k n G D pc lv (.ref x :: st) :=
  fun H locs ls hR hl hv => lv_astore o.ex o.cd d hv hn hl1 (fun ls1 hv1 => h H locs ls1 hR hl hv1)
theorem v_iinc (o : z_O q X cc nL own nm ret) {i : Nat} {j : Int} {x : Int32} (v : Int32) (lv1 : List (Nat × Value)) (d : decode cc pc = .ok (.iinc i j, 3)) (p : Nat) (hp : lv[p]? = some (i, .int x)) (hx : x + Int32.ofInt j = v) (hn : i < nL) (hl1 : (i, Value.int v) :: lv.filter (fun q => !(q.1 == i) && !(q.1 + 1 == i && q.2.category == 2)) = lv1) (h : z_V q X nL Q k n G D (pc + 3) lv1 st) : z_V q X nL Q k n G D pc lv st :=
  fun H locs ls hR hl hv => lv_iinc o.ex o.cd d hv hp hx hn hl1 (fun ls1 hv1 => h H locs ls1 hR hl hv1)
theorem v_if_eq (o : z_O q X cc nL own nm ret) {x : Int32} {off : Int} (t : Nat) (d : decode cc pc = .ok (.ifCond .eq off, 3)) (ht : (pc : Int) + off = (t : Int)) (h1 : x = 0 → z_V q X nL Q k n G D t lv st) (h2 : ¬ (x = 0) → z_V q X nL Q k n G D (pc + 3) lv st) : z_V q X nL Q k n G D pc lv (.int x :: st) :=
  fun H locs ls hR hl hv => lv_if_eq o.ex o.cd d ht (fun e => h1 e H locs ls hR hl hv) (fun e => h2 e H locs ls hR hl hv)
theorem v_icmp_eq (o : z_O q X cc nL own nm ret) {x y : Int32} {off : Int} (t : Nat) (d : decode cc pc = .ok (.if_icmp .eq off, 3)) (ht : (pc : Int) + off = (t : Int)) (h1 : x = y → z_V q X nL Q k n G D t lv st) (h2 : ¬ (x = y) → z_V q X nL Q k n G D (pc + 3) lv st) : z_V q X nL Q k n G D pc lv (.int y :: .int x :: st) :=
  fun H locs ls hR hl hv => lv_icmp_eq o.ex o.cd d ht (fun e => h1 e H locs ls hR hl hv) (fun e => h2 e H locs ls hR hl hv)
theorem v_if_ne (o : z_O q X cc nL own nm ret) {x : Int32} {off : Int} (t : Nat) (d : decode cc pc = .ok (.ifCond .ne off, 3)) (ht : (pc : Int) + off = (t : Int)) (h1 : ¬ x = 0 → z_V q X nL Q k n G D t lv st) (h2 : x = 0 → z_V q X nL Q k n G D (pc + 3) lv st) : z_V q X nL Q k n G D pc lv (.int x :: st) :=
  fun H locs ls hR hl hv => lv_if_ne o.ex o.cd d ht (fun e => h1 e H locs ls hR hl hv) (fun e => h2 e H locs ls hR hl hv)
theorem v_icmp_ne (o : z_O q X cc nL own nm ret) {x y : Int32} {off : Int} (t : Nat) (d : decode cc pc = .ok (.if_icmp .ne off, 3)) (ht : (pc : Int) + off = (t : Int)) (h1 : ¬ x = y → z_V q X nL Q k n G D t lv st) (h2 : x = y → z_V q X nL Q k n G D (pc + 3) lv st) : z_V q X nL Q k n G D pc lv (.int y :: .int x :: st) :=
  fun H locs ls hR hl hv => lv_icmp_ne o.ex o.cd d ht (fun e => h1 e H locs ls hR hl hv) (fun e => h2 e H locs ls hR hl hv)
theorem v_if_lt (o : z_O q X cc nL own nm ret) {x : Int32} {off : Int} (t : Nat) (d : decode cc pc = .ok (.ifCond .lt off, 3)) (ht : (pc : Int) + off = (t : Int)) (h1 : x < 0 → z_V q X nL Q k n G D t lv st) (h2 : ¬ (x < 0) → z_V q X nL Q k n G D (pc + 3) lv st) : z_V q X nL Q k n G D pc lv (.int x :: st) :=
  fun H locs ls hR hl hv => lv_if_lt o.ex o.cd d ht (fun e => h1 e H locs ls hR hl hv) (fun e => h2 e H locs ls hR hl hv)
theorem v_icmp_lt (o : z_O q X cc nL own nm ret) {x y : Int32} {off : Int} (t : Nat) (d : decode cc pc = .ok (.if_icmp .lt off, 3)) (ht : (pc : Int) + off = (t : Int)) (h1 : x < y → z_V q X nL Q k n G D t lv st) (h2 : ¬ (x < y) → z_V q X nL Q k n G D (pc + 3) lv st) : z_V q X nL Q k n G D pc lv (.int y :: .int x :: st) :=
  fun H locs ls hR hl hv => lv_icmp_lt o.ex o.cd d ht (fun e => h1 e H locs ls hR hl hv) (fun e => h2 e H locs ls hR hl hv)
theorem v_if_ge (o : z_O q X cc nL own nm ret) {x : Int32} {off : Int} (t : Nat) (d : decode cc pc = .ok (.ifCond .ge off, 3)) (ht : (pc : Int) + off = (t : Int)) (h1 : 0 ≤ x → z_V q X nL Q k n G D t lv st) (h2 : ¬ (0 ≤ x) → z_V q X nL Q k n G D (pc + 3) lv st) : z_V q X nL Q k n G D pc lv (.int x :: st) :=
  fun H locs ls hR hl hv => lv_if_ge o.ex o.cd d ht (fun e => h1 e H locs ls hR hl hv) (fun e => h2 e H locs ls hR hl hv)
theorem v_icmp_ge (o : z_O q X cc nL own nm ret) {x y : Int32} {off : Int} (t : Nat) (d : decode cc pc = .ok (.if_icmp .ge off, 3)) (ht : (pc : Int) + off = (t : Int)) (h1 : y ≤ x → z_V q X nL Q k n G D t lv st) (h2 : ¬ (y ≤ x) → z_V q X nL Q k n G D (pc + 3) lv st) : z_V q X nL Q k n G D pc lv (.int y :: .int x :: st) :=
  fun H locs ls hR hl hv => lv_icmp_ge o.ex o.cd d ht (fun e => h1 e H locs ls hR hl hv) (fun e => h2 e H locs ls hR hl hv)
theorem v_if_gt (o : z_O q X cc nL own nm ret) {x : Int32} {off : Int} (t : Nat) (d : decode cc pc = .ok (.ifCond .gt off, 3)) (ht : (pc : Int) + off = (t : Int)) (h1 : 0 < x → z_V q X nL Q k n G D t lv st) (h2 : ¬ (0 < x) → z_V q X nL Q k n G D (pc + 3) lv st) : z_V q X nL Q k n G D pc lv (.int x :: st) :=
  fun H locs ls hR hl hv => lv_if_gt o.ex o.cd d ht (fun e => h1 e H locs ls hR hl hv) (fun e => h2 e H locs ls hR hl hv)
theorem v_icmp_gt (o : z_O q X cc nL own nm ret) {x y : Int32} {off : Int} (t : Nat) (d : decode cc pc = .ok (.if_icmp .gt off, 3)) (ht : (pc : Int) + off = (t : Int)) (h1 : y < x → z_V q X nL Q k n G D t lv st) (h2 : ¬ (y < x) → z_V q X nL Q k n G D (pc + 3) lv st) : z_V q X nL Q k n G D pc lv (.int y :: .int x :: st) :=
  fun H locs ls hR hl hv => lv_icmp_gt o.ex o.cd d ht (fun e => h1 e H locs ls hR hl hv) (fun e => h2 e H locs ls hR hl hv)
theorem v_if_le (o : z_O q X cc nL own nm ret) {x : Int32} {off : Int} (t : Nat) (d : decode cc pc = .ok (.ifCond .le off, 3)) (ht : (pc : Int) + off = (t : Int)) (h1 : x ≤ 0 → z_V q X nL Q k n G D t lv st) (h2 : ¬ (x ≤ 0) → z_V q X nL Q k n G D (pc + 3) lv st) : z_V q X nL Q k n G D pc lv (.int x :: st) :=
  fun H locs ls hR hl hv => lv_if_le o.ex o.cd d ht (fun e => h1 e H locs ls hR hl hv) (fun e => h2 e H locs ls hR hl hv)
theorem v_icmp_le (o : z_O q X cc nL own nm ret) {x y : Int32} {off : Int} (t : Nat) (d : decode cc pc = .ok (.if_icmp .le off, 3)) (ht : (pc : Int) + off = (t : Int)) (h1 : x ≤ y → z_V q X nL Q k n G D t lv st) (h2 : ¬ (x ≤ y) → z_V q X nL Q k n G D (pc + 3) lv st) : z_V q X nL Q k n G D pc lv (.int y :: .int x :: st) :=
  fun H locs ls hR hl hv => lv_icmp_le o.ex o.cd d ht (fun e => h1 e H locs ls hR hl hv) (fun e => h2 e H locs ls hR hl hv)
theorem v_goto (o : z_O q X cc nL own nm ret) {off : Int} (t : Nat) (d : decode cc pc = .ok (.goto off, 3)) (ht : (pc : Int) + off = (t : Int)) (h : z_V q X nL Q k n G D t lv st) : z_V q X nL Q k n G D pc lv st :=
  fun H locs ls hR hl hv => lv_goto o.ex o.cd d ht (h H locs ls hR hl hv)
theorem v_tabOut (o : z_O q X cc nL own nm ret) {df lo hi : Int} {offs : Array Int} {len : Nat} {x : Int32} (t : Nat) (d : decode cc pc = .ok (.tableswitch df lo hi offs, len)) (hx : x.toInt < lo ∨ hi < x.toInt) (ht : (pc : Int) + df = (t : Int)) (h : z_V q X nL Q k n G D t lv st) : z_V q X nL Q k n G D pc lv (.int x :: st) :=
  fun H locs ls hR hl hv => lv_tableOut o.ex o.cd d hx ht (h H locs ls hR hl hv)
theorem v_tabIn (o : z_O q X cc nL own nm ret) {df lo hi off : Int} {offs : Array Int} {len : Nat} {x : Int32} (t : Nat) (d : decode cc pc = .ok (.tableswitch df lo hi offs, len)) (h1 : ¬ x.toInt < lo) (h2 : ¬ hi < x.toInt) (ho : offs[(x.toInt - lo).toNat]? = some off) (ht : (pc : Int) + off = (t : Int)) (h : z_V q X nL Q k n G D t lv st) : z_V q X nL Q k n G D pc lv (.int x :: st) :=
  fun H locs ls hR hl hv => lv_tableIn o.ex o.cd d h1 h2 ho ht (h H locs ls hR hl hv)
theorem v_ldc (o : z_O q X cc nL own nm ret) {i : Nat} {v : Int32} (hw : Cond.constant own i v ∈ lw_tbl) (d : decode cc pc = .ok (.ldc i, 2)) (h : z_V q X nL Q k n G D (pc + 2) lv (.int v :: st)) : z_V q X nL Q k n G D pc lv st :=
  fun H locs ls hR hl hv => lv_ldc o.ex o.cd o.ow (o.tw hw rfl) d (h H locs ls hR hl hv)
theorem v_ldcw (o : z_O q X cc nL own nm ret) {i : Nat} {v : Int32} (hw : Cond.constant own i v ∈ lw_tbl) (d : decode cc pc = .ok (.ldc_w i, 3)) (h : z_V q X nL Q k n G D (pc + 3) lv (.int v :: st)) : z_V q X nL Q k n G D pc lv st :=
  fun H locs ls hR hl hv => lv_ldcw o.ex o.cd o.ow (o.tw hw rfl) d (h H locs ls hR hl hv)
theorem v_ldc2 (o : z_O q X cc nL own nm ret) {i : Nat} {v : Int64} (hw : Cond.constantLong own i v ∈ lw_tbl) (d : decode cc pc = .ok (.ldc2_w i, 3)) (h : z_V q X nL Q k n G D (pc + 3) lv (.long v :: st)) : z_V q X nL Q k n G D pc lv st :=
  fun H locs ls hR hl hv => lv_ldc2 o.ex o.cd o.ow (o.tw hw rfl) d (h H locs ls hR hl hv)
end ZR
end
section
section ZF
variable {q : z_Q} {X : z_X} {cc : ByteArray} {nL : Nat} {own nm : String} {ret : Option FieldType} {Q : State → Prop} {k n : Nat} {G : z_G} {D : z_D} {pc : Nat} {lv : List (Nat × Value)} {st : List Value}
/-- a world with one cell changed -/
theorem z_Rel.upd {H H1 : Heap} {a : Nat} {G1 : z_G} {D1 : z_D} (hR : z_Rel q G D H) (hK : z_K G a ≠ 0) (hL : z_L G1 = z_L G) (hKe : z_K G1 = z_K G) (hZ : z_Z G1 = z_Z G) {e : va_E} (he : z_c q G1 D1 a = e) (hne : ∀ b, b ≠ a → z_c q G1 D1 b = z_c q G D b)
    (hP : va_P q.1 vwCl (va_pl (z_aL q G) (va_up (z_ce q G D) (z_w q a) e)) H1) (hz : H1.size = H.size) (ho : ∀ b, b < z_b q → H1[b]? = H[b]?) : z_Rel q G1 D1 H1 := by
  refine ⟨?_, ⟨fun b hb => hR.2.1.1 b (hL ▸ hb), hL ▸ hR.2.1.2.1, fun b hb => ?_⟩, ⟨hR.2.2.1.1, by rw [hz]; exact hR.2.2.1.2⟩, fun b hb => (ho b hb).trans (hR.2.2.2.1 b hb), by rw [hz, hZ]; exact hR.2.2.2.2⟩
  · have : va_pl (z_aL q G1) (z_ce q G1 D1) = va_pl (z_aL q G) (va_up (z_ce q G D) (z_w q a) e) := by
      unfold z_aL
      rw [hL]
      unfold va_pl
      rw [List.map_map, List.map_map]
      apply List.map_congr_left
      intro b _
      show (z_w q b, z_ce q G1 D1 (z_w q b)) = (z_w q b, va_up (z_ce q G D) (z_w q a) e (z_w q b))
      rw [z_ce_w]
      by_cases hb : b = a
      · subst hb
        rw [va_up_self, he]
      · rw [va_up_ne _ _ (fun h9 => hb (z_w_inj h9)), z_ce_w, hne b hb]
    rw [this]
    exact hP
  · rw [hL]
    rw [hKe] at hb
    exact hR.2.1.2.2 b hb
/-- a field is read -/
theorem z_get (o : z_O q X cc nL own nm ret) (ci j : Nat) {C : String} {T : u_T} {N : Nat} (hc : vwCl[ci]? = some (C, T, N)) (hin : ∀ w ∈ u_ws C T N, w ∈ lw_tbl) (hj : j < N) {a : Nat} (hK : z_K G a = 100 + ci) {v : Value} (hv : ((z_T ci).map (z_fv q G D a))[j]? = some v) {i : Nat} (hw : Cond.fieldLink own i (T j).1 (T j).2.1 (T j).2.2.1 ∈ lw_tbl) (d : decode cc pc = .ok (.getfield i, 3)) (h : z_V q X nL Q k n G D (pc + 3) lv (v :: st)) : z_V q X nL Q k n G D pc lv (.ref (z_w q a) :: st) := by
  intro H locs ls hR hl hv1
  obtain ⟨p0, hp⟩ := hR.get (show z_K G a ≠ 0 by omega)
  rw [z_c_ob hK] at hp
  have hin' : ∀ w ∈ u_ws C T N, w ∈ z_tb := fun w h => z_tb_in (hin w h) (by
    obtain ⟨b, -, rfl⟩ := List.mem_map.mp h
    unfold u_lay
    split <;> rfl)
  exact va_get o.ex o.cd o.ts hin' o.ow o.kn hR.1 p0 hp hc j hj (o.tw hw rfl) (fun _ h => h) hv d (h H locs ls hR hl hv1)
theorem z_keyset {G1 : z_G} {D1 : z_D} {a j : Nat} {l : List (Nat × Nat)} {p : Nat × Nat} {v : Value} (hu : (l.map Prod.snd).Nodup) (hp : l[j]? = some p) (hv : z_fv q G1 D1 a p = v) (ho : ∀ p', p'.2 ≠ p.2 → z_fv q G1 D1 a p' = z_fv q G D a p') : l.map (z_fv q G1 D1 a) = (l.map (z_fv q G D a)).set j v := by
  apply List.ext_getElem?
  intro i
  have hjl : j < l.length := (List.getElem?_eq_some_iff.mp hp).1
  by_cases hij : i = j
  · subst hij
    rw [List.getElem?_map, hp, List.getElem?_set_self (by rw [List.length_map]; exact hjl), Option.map_some, hv]
  · rw [List.getElem?_set_ne (Ne.symm hij), List.getElem?_map, List.getElem?_map]
    cases hq : l[i]? with
    | none => rfl
    | some p' =>
      rw [Option.map_some, Option.map_some, ho p']
      intro he
      obtain ⟨l1, e1⟩ := List.getElem?_eq_some_iff.mp hq
      obtain ⟨l2, e2⟩ := List.getElem?_eq_some_iff.mp hp
      have hpw := List.pairwise_iff_getElem.mp hu
      rcases Nat.lt_or_gt_of_ne hij with hlt | hlt
      · exact hpw i j (by rw [List.length_map]; exact l1) (by rw [List.length_map]; exact l2) hlt (by rw [List.getElem_map, List.getElem_map, e1, e2]; exact he)
      · exact hpw j i (by rw [List.length_map]; exact l2) (by rw [List.length_map]; exact l1) hlt (by rw [List.getElem_map, List.getElem_map, e1, e2]; exact he.symm)
/-- a field is written -/
theorem z_put (o : z_O q X cc nL own nm ret) (ci j : Nat) {C : String} {T : u_T} {N : Nat} (hc : vwCl[ci]? = some (C, T, N)) (hin : ∀ w ∈ u_ws C T N, w ∈ lw_tbl) (ty0 : Nat → FieldType) (hty : ∀ k, k < N → parseFieldDescriptor (T k).2.2.1 = some (ty0 k)) (hnm : ∀ a, a < N → ∀ b, b < N → a ≠ b → (T a).2.1 ≠ (T b).2.1) (hj : j < N) {a : Nat} (hK : z_K G a = 100 + ci) {v : Value} {p : Nat × Nat} (hp : (z_T ci)[j]? = some p) (hu : ((z_T ci).map Prod.snd).Nodup) (G1 : z_G) (D1 : z_D)
    (hL : z_L G1 = z_L G) (hKe : z_K G1 = z_K G) (hZ : z_Z G1 = z_Z G) (hv : z_fv q G1 D1 a p = v) (ho : ∀ p', p'.2 ≠ p.2 → z_fv q G1 D1 a p' = z_fv q G D a p') (hne : ∀ b, b ≠ a → z_c q G1 D1 b = z_c q G D b)
    {i : Nat} (hw : Cond.fieldLink own i (T j).1 (T j).2.1 (T j).2.2.1 ∈ lw_tbl) (hfin : (T j).2.2.2 = false ∨ ((T j).2.2.2 = true ∧ nm = "<init>" ∧ (T j).1 = own)) (hn : narrow (ty0 j) v = v) (hfit : fits (ty0 j) v = true)
    (d : decode cc pc = .ok (.putfield i, 3)) (h : z_V q X nL Q k n G1 D1 (pc + 3) lv st) : z_V q X nL Q k n G D pc lv (v :: .ref (z_w q a) :: st) := by
  intro H locs ls hR hl hv1
  have hK0 : z_K G a ≠ 0 := by omega
  obtain ⟨p0, hp0⟩ := hR.get hK0
  have hp1 := hp0
  rw [z_c_ob hK] at hp0
  have hin' : ∀ w ∈ u_ws C T N, w ∈ z_tb := fun w h => z_tb_in (hin w h) (by
    obtain ⟨b, -, rfl⟩ := List.mem_map.mp h
    unfold u_lay
    split <;> rfl)
  have hll : j < ((z_T ci).map (z_fv q G D a)).length := by rw [List.length_map]; exact (List.getElem?_eq_some_iff.mp hp).1
  have fin : ∀ (H1 : Heap) (locs1 : List Loc), va_P q.1 vwCl ((va_pl (z_aL q G) (z_ce q G D)).set p0 (z_w q a, .inr (ci, ((z_T ci).map (z_fv q G D a)).set j v))) H1 → H1.size = H.size → (∀ b, b ≠ z_w q a → H1[b]? = H[b]?) → (∀ l ∈ locs1, z_b q ≤ l.base) → z_W X H1 locs1 k n Q (F0 (x_m X) (pc + 3) ls st) := by
    intro H1 locs1 hP1 hz hob hl1
    rw [z_pl_set hR.D (hR.memA hK0) hp1, ← z_keyset hu hp hv ho] at hP1
    have hg : z_K G1 a = 100 + ci := by rw [hKe]; exact hK
    refine h H1 locs1 ls (hR.upd hK0 hL hKe hZ (z_c_ob hg) hne hP1 hz (fun b hb => hob b ?_)) hl1 hv1
    have := hR.in (hR.mem hK0)
    omega
  have hba : z_b q ≤ z_w q a := hR.in (hR.mem hK0)
  have hl2 : ∀ sl, ∀ l ∈ locs ++ [⟨z_w q a, sl⟩], z_b q ≤ l.base := fun sl l hlm => by
    rcases List.mem_append.mp hlm with h9 | h9
    · exact hl l h9
    · rw [List.mem_singleton.mp h9]
      exact hba
  have hap := va_apart (own := own) o.ts hin' ty0 hty hnm o.kn hc
  obtain ⟨r, e1, cell, q1, q2, q3, q4⟩ := hR.1 p0 _ hp0
  have hr : r = (C, T, N) := Option.some.inj (e1.symm.trans hc)
  subst hr
  obtain ⟨hS, hfc, kC, hkC, hkind⟩ := o.kn.1 ci _ hc
  obtain ⟨cf, kf, fi, f, hi, hsl⟩ := hS j hj
  have hlay := o.ts _ (hin' _ (u_in_lay hj))
  have hst := (u_facts hfc hkC (u_lays o.ts hin' hj) hi).1
  have done : ∀ H' : Heap, H'[z_w q a]? = some (cell.setSlot (q.1.2 ci j) v) → H'.size = H.size → (∀ b, b ≠ z_w q a → H'[b]? = H[b]?) → va_P q.1 vwCl ((va_pl (z_aL q G) (z_ce q G D)).set p0 (z_w q a, .inr (ci, ((z_T ci).map (z_fv q G D a)).set j v))) H' := fun H' f1 f2 f3 =>
    hR.1.set hR.D hp0 ⟨_, hc, t_OB.to (V := updV (vp_V ((z_T ci).map (z_fv q G D a))) j v) ⟨_, f1, q2, q3, t_set q4 hap hj v⟩ (fun i _ => vp_updV_set hll v i)⟩ f3
  unfold u_lay at hlay
  rcases hfin with hfin | ⟨hfin, hnm1, hdecl⟩
  · rw [if_neg (by rw [hfin]; decide)] at hlay
    refine W.putK o.ex o.cd (f := f) ⟨o.ow, o.tw hw rfl, ⟨_, _, _, hi⟩, hst⟩ (by rw [q2]; exact u_store hfc hkC hkind hlay hi (hty j hj) hn hfit) q1 q3 (by rw [hsl]; exact k2_hasslot (q4 j hj)) rfl rfl d fun H' f1 f2 f3 => ?_
    rw [hsl] at f1 ⊢
    exact fin H' _ (done H' f1 f2 f3) f2 f3 (hl2 _)
  · rw [if_pos hfin] at hlay
    have hcf : (x_m X).cls = cf := by
      obtain ⟨_, _, c', _, _, _, -, -, hf', -, -, -, hown2, -⟩ := Cond.laysFinal_spec hlay
      have e9 : c' = cf := by have := hi.symm.trans hf'; simp at this; exact this.1.symm
      rw [hdecl] at hown2
      rw [← e9]; exact Option.some.inj (o.ow.symm.trans hown2)
    refine W.putFinK o.ex o.cd o.ow (o.tw hw rfl) hi hst hcf (o.na.trans hnm1) (by rw [q2]; exact u_fits hfc hkC hkind (Or.inr hlay) hi (hty j hj) hn hfit) q1 q3 (by rw [hsl]; exact k2_hasslot (q4 j hj)) rfl rfl d fun H' f1 f2 f3 => ?_
    rw [hsl] at f1 ⊢
    exact fin H' _ (done H' f1 f2 f3) f2 f3 (hl2 _)
/-- int, long and reference fields -/
theorem z_cne {a b : Nat} {k : Nat} {G1 : z_G} {D1 : z_D} (hKe : z_K G1 = z_K G) (hN : z_N G1 = z_N G) (hA : z_A G1 = z_A G) (hU : z_U D1 = z_U D) (hY : z_Y D1 = z_Y D) (hI : ∀ k, z_I D1 k b = z_I D k b) (hJ : ∀ k, z_J D1 k b = z_J D k b) (hRf : ∀ k, z_R G1 k b = z_R G k b) : z_c q G1 D1 b = z_c q G D b := by
  have hf : z_fv q G1 D1 b = z_fv q G D b := by
    funext p
    unfold z_fv
    rw [hI, hJ, hRf]
  unfold z_c
  rw [hKe, hN, hA, hU, hY, hf]
theorem z_putI (o : z_O q X cc nL own nm ret) (ci j : Nat) {C : String} {T : u_T} {N : Nat} (hc : vwCl[ci]? = some (C, T, N)) (hin : ∀ w ∈ u_ws C T N, w ∈ lw_tbl) (ty0 : Nat → FieldType) (hty : ∀ k, k < N → parseFieldDescriptor (T k).2.2.1 = some (ty0 k)) (hnm : ∀ a, a < N → ∀ b, b < N → a ≠ b → (T a).2.1 ≠ (T b).2.1) (hj : j < N) {key : Nat} (hp : (z_T ci)[j]? = some (0, key)) (hu : ((z_T ci).map Prod.snd).Nodup) {a : Nat} (hK : z_K G a = 100 + ci) {v : Int32}
    {i : Nat} (hw : Cond.fieldLink own i (T j).1 (T j).2.1 (T j).2.2.1 ∈ lw_tbl) (hfin : (T j).2.2.2 = false ∨ ((T j).2.2.2 = true ∧ nm = "<init>" ∧ (T j).1 = own)) (hn : narrow (ty0 j) (.int v) = .int v) (hfit : fits (ty0 j) (.int v) = true)
    (d : decode cc pc = .ok (.putfield i, 3)) (h : z_V q X nL Q k n G (z_sI D key a v) (pc + 3) lv st) : z_V q X nL Q k n G D pc lv (.int v :: .ref (z_w q a) :: st) := by
  refine z_put o ci j hc hin ty0 hty hnm hj hK hp hu G (z_sI D key a v) rfl rfl rfl (by simp [z_fv, z_I_sI]) (fun p' hne => ?_) (fun b hb => ?_) hw hfin hn hfit d h
  · have : ∀ z, ¬ (p'.2 = key ∧ z) := fun z h9 => hne h9.1
    unfold z_fv
    rw [z_I_sI, if_neg (this _), z_J_sI]
  · exact z_cne (a := a) (k := key) rfl rfl rfl rfl rfl (fun k => by rw [z_I_sI, if_neg (fun h9 => hb h9.2)]) (fun _ => rfl) (fun _ => rfl)
theorem z_putJ (o : z_O q X cc nL own nm ret) (ci j : Nat) {C : String} {T : u_T} {N : Nat} (hc : vwCl[ci]? = some (C, T, N)) (hin : ∀ w ∈ u_ws C T N, w ∈ lw_tbl) (ty0 : Nat → FieldType) (hty : ∀ k, k < N → parseFieldDescriptor (T k).2.2.1 = some (ty0 k)) (hnm : ∀ a, a < N → ∀ b, b < N → a ≠ b → (T a).2.1 ≠ (T b).2.1) (hj : j < N) {key : Nat} (hp : (z_T ci)[j]? = some (1, key)) (hu : ((z_T ci).map Prod.snd).Nodup) {a : Nat} (hK : z_K G a = 100 + ci) {v : Int64}
    {i : Nat} (hw : Cond.fieldLink own i (T j).1 (T j).2.1 (T j).2.2.1 ∈ lw_tbl) (hfin : (T j).2.2.2 = false ∨ ((T j).2.2.2 = true ∧ nm = "<init>" ∧ (T j).1 = own)) (hn : narrow (ty0 j) (.long v) = .long v) (hfit : fits (ty0 j) (.long v) = true)
    (d : decode cc pc = .ok (.putfield i, 3)) (h : z_V q X nL Q k n G (z_sJ D key a v) (pc + 3) lv st) : z_V q X nL Q k n G D pc lv (.long v :: .ref (z_w q a) :: st) := by
  refine z_put o ci j hc hin ty0 hty hnm hj hK hp hu G (z_sJ D key a v) rfl rfl rfl (by simp [z_fv, z_J_sJ]) (fun p' hne => ?_) (fun b hb => ?_) hw hfin hn hfit d h
  · have : ∀ z, ¬ (p'.2 = key ∧ z) := fun z h9 => hne h9.1
    unfold z_fv
    rw [z_J_sJ, if_neg (this _), z_I_sJ]
  · exact z_cne (a := a) (k := key) rfl rfl rfl rfl rfl (fun _ => rfl) (fun k => by rw [z_J_sJ, if_neg (fun h9 => hb h9.2)]) (fun _ => rfl)
theorem z_R_sR (G : z_G) (k a v : Nat) (k' a' : Nat) : z_R (z_sR G k a v) k' a' = if k' = k ∧ a' = a then v else z_R G k' a' := rfl
theorem z_putR (o : z_O q X cc nL own nm ret) (ci j : Nat) {C : String} {T : u_T} {N : Nat} (hc : vwCl[ci]? = some (C, T, N)) (hin : ∀ w ∈ u_ws C T N, w ∈ lw_tbl) (ty0 : Nat → FieldType) (hty : ∀ k, k < N → parseFieldDescriptor (T k).2.2.1 = some (ty0 k)) (hnm : ∀ a, a < N → ∀ b, b < N → a ≠ b → (T a).2.1 ≠ (T b).2.1) (hj : j < N) {key : Nat} (hp : (z_T ci)[j]? = some (2, key)) (hu : ((z_T ci).map Prod.snd).Nodup) {a : Nat} (hK : z_K G a = 100 + ci) {v : Nat} (hv0 : v ≠ 0)
    {i : Nat} (hw : Cond.fieldLink own i (T j).1 (T j).2.1 (T j).2.2.1 ∈ lw_tbl) (hfin : (T j).2.2.2 = false ∨ ((T j).2.2.2 = true ∧ nm = "<init>" ∧ (T j).1 = own)) (hn : narrow (ty0 j) (.ref (z_w q v)) = .ref (z_w q v)) (hfit : fits (ty0 j) (.ref (z_w q v)) = true)
    (d : decode cc pc = .ok (.putfield i, 3)) (h : z_V q X nL Q k n (z_sR G key a v) D (pc + 3) lv st) : z_V q X nL Q k n G D pc lv (.ref (z_w q v) :: .ref (z_w q a) :: st) := by
  refine z_put o ci j hc hin ty0 hty hnm hj hK hp hu (z_sR G key a v) D rfl rfl rfl (by simp [z_fv, z_R_sR, z_o, hv0, va_rf]) (fun p' hne => ?_) (fun b hb => ?_) hw hfin hn hfit d h
  · have : ∀ z, ¬ (p'.2 = key ∧ z) := fun z h9 => hne h9.1
    unfold z_fv
    rw [z_R_sR, if_neg (this _)]
  · exact z_cne (a := a) (k := key) rfl rfl rfl rfl rfl (fun _ => rfl) (fun _ => rfl) (fun k => by rw [z_R_sR, if_neg (fun h9 => hb h9.2)])
end ZF
end
section
section ZA
variable {q : z_Q} {X : z_X} {cc : ByteArray} {nL : Nat} {own nm : String} {ret : Option FieldType} {Q : State → Prop} {k n : Nat} {G : z_G} {D : z_D} {pc : Nat} {lv : List (Nat × Value)} {st : List Value}
theorem z_lc {locs : List Loc} {a : Nat} (hl : ∀ l ∈ locs, z_b q ≤ l.base) (hba : z_b q ≤ a) (sl : Nat) : ∀ l ∈ locs ++ [⟨a, sl⟩], z_b q ≤ l.base := fun l hlm => by
  rcases List.mem_append.mp hlm with h9 | h9
  · exact hl l h9
  · rw [List.mem_singleton.mp h9]
    exact hba
theorem v_iald (o : z_O q X cc nL own nm ret) {a : Nat} {i : Int32} (hK : z_K G a = 1) (hi : vp_in i (z_N G a)) (d : decode cc pc = .ok (.iaload, 1)) (h : z_V q X nL Q k n G D (pc + 1) lv (.int (z_U D a i.toNatClampNeg) :: st)) : z_V q X nL Q k n G D pc lv (.int i :: .ref (z_w q a) :: st) := by
  intro H locs ls hR hl hv
  obtain ⟨p0, hp⟩ := hR.get (show z_K G a ≠ 0 by omega)
  rw [z_c_1 hK] at hp
  exact va_iald o.ex o.cd o.kn hR.1 p0 0 hp rfl hi d (h H locs ls hR hl hv)
theorem v_lald (o : z_O q X cc nL own nm ret) {a : Nat} {i : Int32} (hK : z_K G a = 2) (hi : vp_in i (z_N G a)) (d : decode cc pc = .ok (.laload, 1)) (h : z_V q X nL Q k n G D (pc + 1) lv (.long (z_Y D a i.toNatClampNeg) :: st)) : z_V q X nL Q k n G D pc lv (.int i :: .ref (z_w q a) :: st) := by
  intro H locs ls hR hl hv
  obtain ⟨p0, hp⟩ := hR.get (show z_K G a ≠ 0 by omega)
  rw [z_c_2 hK] at hp
  exact va_lald o.ex o.cd o.kn hR.1 p0 1 hp rfl hi d (h H locs ls hR hl hv)
theorem v_aald (o : z_O q X cc nL own nm ret) {a : Nat} {i : Int32} (hK : z_K G a = 3) (hi : vp_in i (z_N G a)) (hz : z_A G a i.toNatClampNeg ≠ 0) (d : decode cc pc = .ok (.aaload, 1)) (h : z_V q X nL Q k n G D (pc + 1) lv (.ref (z_w q (z_A G a i.toNatClampNeg)) :: st)) : z_V q X nL Q k n G D pc lv (.int i :: .ref (z_w q a) :: st) := by
  intro H locs ls hR hl hv
  obtain ⟨p0, hp⟩ := hR.get (show z_K G a ≠ 0 by omega)
  rw [z_c_3 hK] at hp
  refine va_aldq o.ex o.cd o.kn hR.1 p0 2 hp rfl hi d ?_
  have e : z_o q (z_A G a i.toNatClampNeg) = some (z_w q (z_A G a i.toNatClampNeg)) := by unfold z_o; rw [if_neg hz]
  show z_W X H locs k n Q (F0 (x_m X) (pc + 1) ls (va_rf (z_o q (z_A G a i.toNatClampNeg)) :: st))
  rw [e]
  exact h H locs ls hR hl hv
theorem v_alen (o : z_O q X cc nL own nm ret) {a : Nat} (hK : z_K G a = 1) (d : decode cc pc = .ok (.arraylength, 1)) (h : z_V q X nL Q k n G D (pc + 1) lv (.int (Int32.ofNat (z_N G a)) :: st)) : z_V q X nL Q k n G D pc lv (.ref (z_w q a) :: st) := by
  intro H locs ls hR hl hv
  obtain ⟨p0, hp⟩ := hR.get (show z_K G a ≠ 0 by omega)
  rw [z_c_1 hK] at hp
  exact va_alen o.ex o.cd o.kn hR.1 p0 0 hp rfl rfl d (h H locs ls hR hl hv)
theorem z_cneU {a b j : Nat} {v : Int32} (hb : b ≠ a) : z_c q G (z_sU D a j v) b = z_c q G D b := by
  have hU : z_U (z_sU D a j v) b = z_U D b := by
    funext i
    rw [z_U_sU, if_neg (fun h9 => hb h9.1)]
  have hf : z_fv q G (z_sU D a j v) b = z_fv q G D b := rfl
  have hY : z_Y (z_sU D a j v) b = z_Y D b := rfl
  unfold z_c
  rw [hU, hf, hY]
theorem z_cneY {a b j : Nat} {v : Int64} (hb : b ≠ a) : z_c q G (z_sY D a j v) b = z_c q G D b := by
  have hU : z_Y (z_sY D a j v) b = z_Y D b := by
    funext i
    rw [z_Y_sY, if_neg (fun h9 => hb h9.1)]
  have hf : z_fv q G (z_sY D a j v) b = z_fv q G D b := rfl
  have hY : z_U (z_sY D a j v) b = z_U D b := rfl
  unfold z_c
  rw [hU, hf, hY]
theorem v_iast (o : z_O q X cc nL own nm ret) {a : Nat} {i x : Int32} (hK : z_K G a = 1) (hi : vp_in i (z_N G a)) (d : decode cc pc = .ok (.iastore, 1)) (h : z_V q X nL Q k n G (z_sU D a i.toNatClampNeg x) (pc + 1) lv st) : z_V q X nL Q k n G D pc lv (.int x :: .int i :: .ref (z_w q a) :: st) := by
  intro H locs ls hR hl hv
  have hK0 : z_K G a ≠ 0 := by omega
  obtain ⟨p0, hp⟩ := hR.get hK0
  have hp1 := hp
  rw [z_c_1 hK] at hp
  have hba : z_b q ≤ z_w q a := hR.in (hR.mem hK0)
  refine W.iast o.ex o.cd (hR.1 p0 _ hp) ((o.kn.2 0 _ rfl).1 _ (fun j => .int (z_U D a j))) (fun e => by cases e) (by show ¬ (i < 0 ∨ (arrV _ _ _).slots.size ≤ _); rw [arrV_size]; exact hi) rfl rfl d fun H1 e z oq => ?_
  have hP1 : va_P q.1 vwCl ((va_pl (z_aL q G) (z_ce q G D)).set p0 (z_w q a, .inl (q.2.1.1, z_N G a, .inl (z_U (z_sU D a i.toNatClampNeg x) a)))) H1 := by
    refine hR.1.set hR.D hp ?_ oq
    show H1[z_w q a]? = some (vp_cell _ _)
    rw [e]
    show some ((arrV _ _ _).setSlot _ _) = _
    rw [vp_cell_i, arrV_store]
    congr 2
    funext j
    unfold updV
    rw [z_U_sU]
    by_cases hj : j = i.toNatClampNeg
    · rw [if_pos hj, if_pos ⟨rfl, hj⟩]
    · rw [if_neg hj, if_neg (fun h9 => hj h9.2)]
  rw [z_pl_set hR.D (hR.memA hK0) hp1] at hP1
  exact h H1 _ ls (hR.upd hK0 rfl rfl rfl (z_c_1 hK) (fun b hb => z_cneU hb) hP1 z (fun b hb => oq b (fun e => absurd hb (by rw [e]; exact Nat.not_lt.mpr hba)))) (z_lc hl hba _) hv
theorem v_last (o : z_O q X cc nL own nm ret) {a : Nat} {i : Int32} {x : Int64} (hK : z_K G a = 2) (hi : vp_in i (z_N G a)) (d : decode cc pc = .ok (.lastore, 1)) (h : z_V q X nL Q k n G (z_sY D a i.toNatClampNeg x) (pc + 1) lv st) : z_V q X nL Q k n G D pc lv (.long x :: .int i :: .ref (z_w q a) :: st) := by
  intro H locs ls hR hl hv
  have hK0 : z_K G a ≠ 0 := by omega
  obtain ⟨p0, hp⟩ := hR.get hK0
  have hp1 := hp
  rw [z_c_2 hK] at hp
  have hba : z_b q ≤ z_w q a := hR.in (hR.mem hK0)
  refine W.last o.ex o.cd (hR.1 p0 _ hp) ((o.kn.2 1 _ rfl).1 _ (fun j => .long (z_Y D a j))) (fun e => by cases e) (by show ¬ (i < 0 ∨ (arrV _ _ _).slots.size ≤ _); rw [arrV_size]; exact hi) rfl rfl d fun H1 e z oq => ?_
  have hP1 : va_P q.1 vwCl ((va_pl (z_aL q G) (z_ce q G D)).set p0 (z_w q a, .inl (q.2.1.2.1, z_N G a, .inr (.inl (z_Y (z_sY D a i.toNatClampNeg x) a))))) H1 := by
    refine hR.1.set hR.D hp ?_ oq
    show H1[z_w q a]? = some (vp_cell _ _)
    rw [e]
    show some ((arrV _ _ _).setSlot _ _) = _
    rw [vp_cell_l, arrV_store]
    congr 2
    funext j
    unfold updV
    rw [z_Y_sY]
    by_cases hj : j = i.toNatClampNeg
    · rw [if_pos hj, if_pos ⟨rfl, hj⟩]
    · rw [if_neg hj, if_neg (fun h9 => hj h9.2)]
  rw [z_pl_set hR.D (hR.memA hK0) hp1] at hP1
  exact h H1 _ ls (hR.upd hK0 rfl rfl rfl (z_c_2 hK) (fun b hb => z_cneY hb) hP1 z (fun b hb => oq b (fun e => absurd hb (by rw [e]; exact Nat.not_lt.mpr hba)))) (z_lc hl hba _) hv
end ZA
/-! contracts -/
def z_rm (dp mc ms : Nat) : Room := { frames := dp, cells := mc, slots := ms, locals := 40 * dp }
def z_Pre (q : z_Q) (G : z_G) (D : z_D) (U : State) : Prop := z_Rel q G D U.heap ∧ va_K q.1 vwCl (z_ty q) U ∧ z_St q U
def z_Qc (q : z_Q) (r : Option Value) (G : z_G) (D : z_D) : Array Value → State → Outcome → State → Prop := fun _ _ oc t => oc = .returned r ∧ z_Rel q G D t.heap
/-- the method y, called with av in the store (G, D), comes back with r, in the store (G1, D1) -/
def z_E (q : z_Q) (l : Launch) (y : MethodName) (bytes : ByteArray) (maxL : Nat) (ret : Option FieldType) (dp mc ms : Nat) (av : List Value) (G : z_G) (D : z_D) (r : Option Value) (G1 : z_G) (D1 : z_D) : Prop :=
  Met l y (Cond.code y bytes maxL ret :: z_tb) (z_rm dp mc ms) (va_Pc av (z_Pre q G D)) (z_Qc q r G1 D1) mc ms (fun a => z_b q ≤ a)
/-- the end of a method: the state as the contract says it -/
def z_F (q : z_Q) (X : z_X) (r : Option Value) (G : z_G) (D : z_D) (mc ms : Nat) : State → Prop := MQ (x_b X) (z_Qc q r G D) (x_a X) (x_s X) mc ms (fun a => z_b q ≤ a)
theorem z_E.of {q : z_Q} {l : Launch} {y : MethodName} {bytes : ByteArray} {maxL : Nat} {ret : Option FieldType} {dp mc ms : Nat} {av : List Value} {G : z_G} {D : z_D} {r : Option Value} {G1 : z_G} {D1 : z_D} (hy : plainName y.cls = true) (hn : (lg_sl av).length ≤ maxL)
    (h : ∀ X : z_X, x_R X = z_rm dp mc ms → x_l X = l → z_O q X bytes maxL y.cls y.name ret → z_V q X maxL (z_F q X r G1 D1 mc ms) 0 0 G D 0 (lv_args 0 av) []) : z_E q l y bytes maxL ret dp mc ms av G D r G1 D1 := by
  refine Met.ofW (cc := bytes) (maxL := maxL) (ret := ret) hy rfl ?_
  intro p e s m args below meth c s₁ B hml hv
  obtain ⟨rfl, hR, hK, hSt⟩ := hv
  have hts := atoms_spec (ws := Cond.code y bytes maxL ret :: z_tb) B.pre
  rw [lg_entry_eq]
  exact h (p, l, e, z_rm dp mc ms, s, m, av.toArray, below, meth, c) rfl rfl ⟨B.exec, B.bytes, B.returns, hml, findClass_of_methodNamed B.named, fun w hw => hts w (List.mem_cons_of_mem _ hw), B.notSynchronized, hK, hSt, (name_of_methodNamed B.named B.method).1, hR.2.2.1.2, hR.2.2.2.1⟩ s.heap [] _ hR (fun l hl => by cases hl) (lv_entry av hn)
section ZE
variable {q : z_Q} {X : z_X} {cc : ByteArray} {nL : Nat} {own nm : String} {ret : Option FieldType} {Q : State → Prop} {k n : Nat} {G : z_G} {D : z_D} {pc : Nat} {lv : List (Nat × Value)} {st : List Value}
theorem v_ireturn (o : z_O q X cc nL own nm (some .int)) {v : Int32} (d : decode cc pc = .ok (.ireturn, 1)) : z_V q X nL (z_F q X (some (.int v)) G D k n) k n G D pc lv [.int v] :=
  fun H locs ls hR hl hv => W.iret o.ex o.cd o.rt (fun t ht _ => ⟨rfl, by rw [ht]; exact hR⟩) hl d o.lk
theorem v_zreturn (o : z_O q X cc nL own nm (some .boolean)) {v : Int32} (hz : narrow .boolean (.int v) = .int v) (d : decode cc pc = .ok (.ireturn, 1)) : z_V q X nL (z_F q X (some (.int v)) G D k n) k n G D pc lv [.int v] :=
  fun H locs ls hR hl hv => W.zret o.ex o.cd o.rt hz (fun t ht _ => ⟨rfl, by rw [ht]; exact hR⟩) hl d o.lk
theorem v_lreturn (o : z_O q X cc nL own nm (some .long)) {v : Int64} (d : decode cc pc = .ok (.lreturn, 1)) : z_V q X nL (z_F q X (some (.long v)) G D k n) k n G D pc lv [.long v] :=
  fun H locs ls hR hl hv => W.lret o.ex o.cd o.rt (fun t ht _ => ⟨rfl, by rw [ht]; exact hR⟩) hl d o.lk
theorem v_areturn {C : String} (o : z_O q X cc nL own nm (some (.object C))) {v : Nat} (d : decode cc pc = .ok (.areturn, 1)) : z_V q X nL (z_F q X (some (.ref (z_w q v))) G D k n) k n G D pc lv [.ref (z_w q v)] :=
  fun H locs ls hR hl hv => W.aret o.ex o.cd o.rt (Or.inl ⟨_, rfl⟩) (Or.inr ⟨_, rfl⟩) (fun t ht _ => ⟨rfl, by rw [ht]; exact hR⟩) hl d o.lk
theorem v_return (o : z_O q X cc nL own nm none) (d : decode cc pc = .ok (.return_, 1)) : z_V q X nL (z_F q X none G D k n) k n G D pc lv [] :=
  fun H locs ls hR hl hv => W.vret o.ex o.cd o.rt (fun t ht _ => ⟨rfl, by rw [ht]; exact hR⟩) hl d o.lk
theorem z_Pre.blind {q : z_Q} {G : z_G} {D : z_D} {av : List Value} : FrameBlind (va_Pc av (z_Pre q G D)) := fun a U g mk h => ⟨h.1, h.2.1, va_K.moved (u := U) (U := U.calling g mk a) (Vm.Alike.refl U.vm) h.2.2.1, z_St.same (s := U) (U := U.calling g mk a) rfl h.2.2.2⟩
theorem z_back {H : Heap} {locs : List Loc} {mc ms : Nat} {ls : Array Slot} {st0 : List Value} {r : Option Value} {G1 : z_G} {D1 : z_D} {a : Array Value} (hr : va_Run (x_p X) (x_l X) (x_e X) (x_R X) (x_s X) (x_m X) (x_a X) (x_b X) (x_h X) (x_c X) H locs k n mc ms (F0 (x_m X) pc ls st0) st (z_Qc q r G1 D1 a) (fun a => z_b q ≤ a)) (hl : ∀ l ∈ locs, z_b q ≤ l.base) (hv : lv_has ls nL lv) (h : z_V q X nL Q (k + mc) (n + ms) G1 D1 (pc + 3) lv (r.toList ++ st)) : z_W X H locs k n Q (F0 (x_m X) pc ls st0) := by
  intro T hT Y
  obtain ⟨v, st₀, t, T', L, h0, Y', hL, e1, e2, ⟨hv1, hR1⟩, go⟩ := hr T hT Y
  cases hv1
  obtain ⟨t2, a1, b1⟩ := h T'.heap (locs ++ L) ls (by rw [e1]; exact hR1) (fun l hm => by
    rcases List.mem_append.mp hm with h9 | h9
    · exact hl l h9
    · exact hL l h9) hv T' rfl Y'
  exact ⟨t2, go t2 a1, b1⟩
/-- what the tables say of a method: its code, its class, its parameters -/
def z_yw (y : MethodName) (bytes : ByteArray) (maxL : Nat) (ret : Option FieldType) (m : Nat) : Prop := Cond.code y bytes maxL ret ∈ lw_tbl ∧ Cond.initialized y.cls ∈ lw_tbl ∧ (y.cls ≠ "java/lang/invoke/MethodHandle" ∧ y.cls ≠ "java/lang/invoke/VarHandle" ∧ (parseMethodDescriptor y.desc).map (fun d => d.parameters.length) = some m)
theorem z_GI {y : MethodName} {bytes : ByteArray} {maxL : Nat} {ret : Option FieldType} (h : Cond.code y bytes maxL ret ∈ lw_tbl) : GoodIn z_tb (Cond.code y bytes maxL ret :: z_tb) := fun w hw => by
  rcases List.mem_cons.mp hw with rfl | hw
  · exact ⟨z_tb_in h rfl, good_of_word rfl⟩
  · exact ⟨hw, z_tb_good hw⟩
variable {y : MethodName} {bytes : ByteArray} {maxL : Nat} {ret' : Option FieldType} {dp mc ms nA i b : Nat} {As : List Value} {st0 : List Value} {r : Option Value} {G1 : z_G} {D1 : z_D} {R0 : Room}
theorem z_cB (o : z_O q X cc nL own nm ret) (yw : z_yw y bytes maxL ret' nA) (hw : Cond.methodLink own i y ∈ lw_tbl) (hX : x_R X = R0) (hr : dp + 1 ≤ R0.frames ∧ 8 + (maxL + 11) + 40 * dp ≤ R0.locals ∧ k + mc ≤ R0.cells ∧ n + ms ≤ R0.slots) : CallB (x_R X) (x_s X) (x_a X) own i y bytes maxL ret' (Cond.code y bytes maxL ret' :: z_tb) (z_rm dp mc ms) mc ms nA :=
  callB_of nA o.ts (z_GI yw.1) rfl rfl rfl (o.tw yw.2.1 rfl) (o.tw hw rfl) yw.2.2 (by rw [hX]; exact ⟨hr.1, hr.2.1⟩)
theorem z_cf (hX : x_R X = R0) (hr : dp + 1 ≤ R0.frames ∧ 8 + (maxL + 11) + 40 * dp ≤ R0.locals ∧ k + mc ≤ R0.cells ∧ n + ms ≤ R0.slots) : k + mc ≤ (x_R X).cells ∧ n + ms ≤ (x_R X).slots := by rw [hX]; exact hr.2.2
/-- invokevirtual -/
theorem v_callV (o : z_O q X cc nL own nm ret) (yw : z_yw y bytes maxL ret' nA) (hw : Cond.methodLink own i y ∈ lw_tbl) (hwi : Cond.instanceMethod y ∈ lw_tbl) (hws : Cond.selects y.cls y y ∈ lw_tbl) (hX : x_R X = R0) (hr : dp + 1 ≤ R0.frames ∧ 8 + (maxL + 11) + 40 * dp ≤ R0.locals ∧ k + mc ≤ R0.cells ∧ n + ms ≤ R0.slots)
    (ci : Nat) {T : u_T} {N : Nat} (hc : vwCl[ci]? = some (y.cls, T, N)) (hK : z_K G b = 100 + ci) (hn : As.length = nA) (hst : st0 = As.reverse ++ .ref (z_w q b) :: st) (hW : (st.map fun v => v.category).sum ≤ 8) (E : z_E q (x_l X) y bytes maxL ret' dp mc ms (.ref (z_w q b) :: As) G D r G1 D1) (d : decode cc pc = .ok (.invokevirtual i, 3))
    (h : z_V q X nL Q (k + mc) (n + ms) G1 D1 (pc + 3) lv (r.toList ++ st)) : z_V q X nL Q k n G D pc lv st0 := by
  intro H locs ls hR hl hv
  obtain ⟨p0, hp⟩ := hR.get (show z_K G b ≠ 0 by omega)
  rw [z_c_ob hK] at hp
  exact z_back (va_runV (As := As) (rest := st) (n := nA) ⟨o.ex, o.cd, o.ml, o.ow, o.ts⟩ E ⟨z_cB o yw hw hX hr, o.tw hwi rfl, o.tw hws rfl⟩ ⟨z_Pre.blind, va_recv o.kn hR.1 hc hp, fun U hU hW => ⟨rfl, by rw [hU]; exact hR, o.kn.moved hW.alike, o.st.warm hW⟩⟩ rfl hn hv.1 hst (lv_room hW) d (z_cf hX hr)) hl hv h
/-- invokestatic -/
theorem v_callS (o : z_O q X cc nL own nm ret) (yw : z_yw y bytes maxL ret' nA) (hw : Cond.methodLink own i y ∈ lw_tbl) (hws : Cond.static y ∈ lw_tbl) (hX : x_R X = R0) (hr : dp + 1 ≤ R0.frames ∧ 8 + (maxL + 11) + 40 * dp ≤ R0.locals ∧ k + mc ≤ R0.cells ∧ n + ms ≤ R0.slots)
    (hn : As.length = nA) (hst : st0 = As.reverse ++ st) (hW : (st.map fun v => v.category).sum ≤ 8) (E : z_E q (x_l X) y bytes maxL ret' dp mc ms As G D r G1 D1) (d : decode cc pc = .ok (.invokestatic i, 3))
    (h : z_V q X nL Q (k + mc) (n + ms) G1 D1 (pc + 3) lv (r.toList ++ st)) : z_V q X nL Q k n G D pc lv st0 := by
  intro H locs ls hR hl hv
  exact z_back (va_runS (As := As) (rest := st) (n := nA) ⟨o.ex, o.cd, o.ml, o.ow, o.ts⟩ E ⟨z_cB o yw hw hX hr, o.tw hws rfl⟩ ⟨z_Pre.blind, fun U hU hW => ⟨rfl, by rw [hU]; exact hR, o.kn.moved hW.alike, o.st.warm hW⟩⟩ rfl hn hv.1 hst (lv_room hW) d (z_cf hX hr)) hl hv h
/-- invokespecial of a constructor -/
theorem v_callI (o : z_O q X cc nL own nm ret) (yw : z_yw y bytes maxL none nA) (hy : y.name = "<init>") (hw : Cond.methodLink own i y ∈ lw_tbl) (hwi : Cond.instanceMethod y ∈ lw_tbl) (hX : x_R X = R0) (hr : dp + 1 ≤ R0.frames ∧ 8 + (maxL + 11) + 40 * dp ≤ R0.locals ∧ k + mc ≤ R0.cells ∧ n + ms ≤ R0.slots)
    (hn : As.length = nA) (hst : st0 = As.reverse ++ .ref (z_w q b) :: st) (hW : (st.map fun v => v.category).sum ≤ 8) (E : z_E q (x_l X) y bytes maxL none dp mc ms (.ref (z_w q b) :: As) G D none G1 D1) (d : decode cc pc = .ok (.invokespecial i, 3))
    (h : z_V q X nL Q (k + mc) (n + ms) G1 D1 (pc + 3) lv st) : z_V q X nL Q k n G D pc lv st0 := by
  intro H locs ls hR hl hv
  exact z_back (va_runI (As := As) (rest := st) (n := nA) ⟨o.ex, o.cd, o.ml, o.ow, o.ts⟩ E ⟨z_cB o yw hw hX hr, hy, o.tw hwi rfl⟩ ⟨z_Pre.blind, fun U hU hW => ⟨rfl, by rw [hU]; exact hR, o.kn.moved hW.alike, o.st.warm hW⟩⟩ rfl hn hv.1 hst (lv_room hW) d (z_cf hX hr)) hl hv h
end ZE
end
section
/-! words for pure functions -/
def z_gK {α : Type} (G : z_G) (kd a : Nat) (x : Option α) : Option α := if z_K G a = kd then x else none
def z_gA {α : Type} (G : z_G) (kd a : Nat) (i : Int32) (x : Option α) : Option α := if z_K G a = kd ∧ 0 ≤ i ∧ i.toNatClampNeg < z_N G a then x else none
def z_gB {α : Type} (v : Int32) (x : Option α) : Option α := if v = 0 ∨ v = 1 then x else none
def z_gN {α : Type} (v : Int32) (x : Option α) : Option α := if v = 0 then none else x
theorem z_gK_of {α : Type} {G : z_G} {kd a : Nat} {x : Option α} {r : α} (h : z_gK G kd a x = some r) : z_K G a = kd ∧ x = some r := by
  unfold z_gK at h
  by_cases c : z_K G a = kd
  · rw [if_pos c] at h; exact ⟨c, h⟩
  · rw [if_neg c] at h; cases h
theorem z_gA_of {α : Type} {G : z_G} {kd a : Nat} {i : Int32} {x : Option α} {r : α} (h : z_gA G kd a i x = some r) : z_K G a = kd ∧ vp_in i (z_N G a) ∧ x = some r := by
  unfold z_gA at h
  by_cases c : z_K G a = kd ∧ 0 ≤ i ∧ i.toNatClampNeg < z_N G a
  · rw [if_pos c] at h
    refine ⟨c.1, fun e => ?_, h⟩
    rcases e with e | e
    · have := c.2.1
      rw [Int32.le_iff_toInt_le] at this
      rw [Int32.lt_iff_toInt_lt] at e
      omega
    · exact absurd c.2.2 (Nat.not_lt.mpr e)
  · rw [if_neg c] at h; cases h
theorem z_gB_of {α : Type} {v : Int32} {x : Option α} {r : α} (h : z_gB v x = some r) : (v = 0 ∨ v = 1) ∧ x = some r := by
  unfold z_gB at h
  by_cases c : v = 0 ∨ v = 1
  · rw [if_pos c] at h; exact ⟨c, h⟩
  · rw [if_neg c] at h; cases h
theorem z_gN_of {α : Type} {v : Int32} {x : Option α} {r : α} (h : z_gN v x = some r) : ¬ v = 0 ∧ x = some r := by
  unfold z_gN at h
  by_cases c : v = 0
  · rw [if_pos c] at h; cases h
  · rw [if_neg c] at h; exact ⟨c, h⟩
theorem z_nb {v : Int32} (h : v = 0 ∨ v = 1) : narrow .boolean (.int v) = .int v := by
  rcases h with rfl | rfl <;> rfl
theorem z_fb {v : Int32} (h : v = 0 ∨ v = 1) : fits .boolean (.int v) = true := by
  rcases h with rfl | rfl <;> rfl
theorem z_bind {α β : Type} {x : Option α} {f : α → Option β} {r : β} (h : x.bind f = some r) : ∃ a, x = some a ∧ f a = some r := Option.bind_eq_some_iff.mp h
theorem z_some {α : Type} {a b : α} (h : some a = some b) : a = b := Option.some.inj h
def z_let {α β : Type} (a : α) (f : α → β) : β := f a
theorem z_let_of {α β : Type} {a : α} {f : α → Option β} {r : β} (h : z_let a f = some r) : f a = some r := h
/-- a loop: f goes on with a new state, or leaves -/
def z_loop {α β : Type} (f : α → Option (α ⊕ β)) : Nat → α → Option β
  | 0, _ => none
  | n + 1, a => (f a).bind (Sum.elim (fun a' => z_loop f n a') (fun b => some b))
theorem z_loopV {α β : Type} {f : α → Option (α ⊕ β)} {P : α → Prop} {E : β → Prop} (hb : ∀ a ρ, f a = some ρ → Sum.elim P E ρ → P a) : ∀ (n : Nat) (a : α) (b : β), z_loop f n a = some b → E b → P a := by
  intro n
  induction n with
  | zero => intro a b h; cases h
  | succ n ih =>
    intro a b h hE
    obtain ⟨ρ, h1, h2⟩ := z_bind h
    refine hb a ρ h1 ?_
    rcases ρ with a' | b'
    · exact ih a' b h2 hE
    · cases h2; exact hE
section ZS
variable {q : z_Q} {X : z_X} {cc : ByteArray} {nL : Nat} {own nm : String} {ret : Option FieldType} {Q : State → Prop} {k n : Nat} {G : z_G} {D : z_D} {pc : Nat} {lv : List (Nat × Value)} {st : List Value}
theorem v_sub (ks : List Nat) {lv1 : List (Nat × Value)} (hl : lv_pick lv ks = lv1) (h : z_V q X nL Q k n G D pc lv1 st) : z_V q X nL Q k n G D pc lv st := fun H locs ls hR hl1 hv => h H locs ls hR hl1 (lv_sub hv ks hl)
theorem z_nz {H : Heap} (hb : 0 < z_b q) (hR : z_Rel q G D H) {a : Nat} (h : z_K G a ≠ 0) : a ≠ 0 := fun e => by
  have := hR.2.1.1 a (hR.mem h)
  omega
/-- a reference field is read, of which the kind is known -/
theorem z_getR (o : z_O q X cc nL own nm ret) (ci j key : Nat) {C : String} {T : u_T} {N : Nat} (hc : vwCl[ci]? = some (C, T, N)) (hin : ∀ w ∈ u_ws C T N, w ∈ lw_tbl) (hj : j < N) {a : Nat} (hK : z_K G a = 100 + ci) (hv : ((z_T ci).map (z_fv q G D a))[j]? = some (va_rf (z_o q (z_R G key a)))) {i : Nat} (hw : Cond.fieldLink own i (T j).1 (T j).2.1 (T j).2.2.1 ∈ lw_tbl) (hk : z_K G (z_R G key a) ≠ 0) (d : decode cc pc = .ok (.getfield i, 3)) (h : z_V q X nL Q k n G D (pc + 3) lv (.ref (z_w q (z_R G key a)) :: st)) : z_V q X nL Q k n G D pc lv (.ref (z_w q a) :: st) := by
  intro H locs ls hR
  have hz := z_nz o.st.2.2.2.2 hR hk
  have e : z_o q (z_R G key a) = some (z_w q (z_R G key a)) := by unfold z_o; rw [if_neg hz]
  rw [e] at hv
  exact z_get o ci j hc hin hj hK hv hw d h H locs ls hR
theorem v_aaldK (o : z_O q X cc nL own nm ret) {a : Nat} {i : Int32} (hK : z_K G a = 3) (hi : vp_in i (z_N G a)) (hz : z_K G (z_A G a i.toNatClampNeg) ≠ 0) (d : decode cc pc = .ok (.aaload, 1)) (h : z_V q X nL Q k n G D (pc + 1) lv (.ref (z_w q (z_A G a i.toNatClampNeg)) :: st)) : z_V q X nL Q k n G D pc lv (.int i :: .ref (z_w q a) :: st) := by
  intro H locs ls hR
  exact v_aald o hK hi (z_nz o.st.2.2.2.2 hR hz) d h H locs ls hR
theorem v_tabAt (o : z_O q X cc nL own nm ret) {df lo hi off : Int} {offs : Array Int} {len : Nat} {x : Int32} (c : Int32) (t : Nat) (d : decode cc pc = .ok (.tableswitch df lo hi offs, len)) (hx : x = c) (h1 : ¬ c.toInt < lo) (h2 : ¬ hi < c.toInt) (ho : offs[(c.toInt - lo).toNat]? = some off) (ht : (pc : Int) + off = (t : Int)) (h : z_V q X nL Q k n G D t lv st) : z_V q X nL Q k n G D pc lv (.int x :: st) := by
  subst hx
  exact v_tabIn o t d h1 h2 ho ht h
theorem z_i32 {x c : Int32} {m : Int} (h : x.toInt = m) (hc : c.toInt = m) : x = c := Int32.toInt_inj.mp (h.trans hc.symm)
end ZS
end
section
/-! new cells -/
def z_nG (G : z_G) (kd len : Nat) : z_G := (z_L G ++ [z_Z G], (fun a => if a = z_Z G then kd else z_K G a), (fun a => if a = z_Z G then len else z_N G a), (fun k a => if a = z_Z G then 0 else z_R G k a), (fun a j => if a = z_Z G then 0 else z_A G a j), z_Z G + 1)
def z_nD (D : z_D) (a : Nat) : z_D := ((fun k b => if b = a then 0 else z_I D k b), (fun k b => if b = a then 0 else z_J D k b), (fun b j => if b = a then 0 else z_U D b j), (fun b j => if b = a then 0 else z_Y D b j))
/-- the row at a is f -/
def z_fD (D : z_D) (a : Nat) (f : Nat → Int32) : z_D := (D.1, D.2.1, (fun b j => if b = a then f j else z_U D b j), D.2.2.2)
def z_dv (p : Nat × Nat) : Value := match p.1 with
  | 0 => .int 0
  | 1 => .long 0
  | _ => .null
theorem z_fv_new {q : z_Q} {G : z_G} {D : z_D} {kd len : Nat} : z_fv q (z_nG G kd len) (z_nD D (z_Z G)) (z_Z G) = z_dv := by
  funext p
  have h1 : ∀ k, z_I (z_nD D (z_Z G)) k (z_Z G) = 0 := fun k => if_pos rfl
  have h2 : ∀ k, z_J (z_nD D (z_Z G)) k (z_Z G) = 0 := fun k => if_pos rfl
  have h3 : ∀ k, z_R (z_nG G kd len) k (z_Z G) = 0 := fun k => if_pos rfl
  unfold z_fv z_dv
  rw [h1, h2, h3]
  rfl
theorem z_c_old {q : z_Q} {G : z_G} {D : z_D} {kd len b : Nat} (hb : b ≠ z_Z G) : z_c q (z_nG G kd len) (z_nD D (z_Z G)) b = z_c q G D b := by
  have h1 : z_K (z_nG G kd len) b = z_K G b := if_neg hb
  have h2 : z_N (z_nG G kd len) b = z_N G b := if_neg hb
  have h3 : ∀ k, z_R (z_nG G kd len) k b = z_R G k b := fun k => if_neg hb
  have h4 : ∀ j, z_A (z_nG G kd len) b j = z_A G b j := fun j => if_neg hb
  have h5 : ∀ k, z_I (z_nD D (z_Z G)) k b = z_I D k b := fun k => if_neg hb
  have h6 : ∀ k, z_J (z_nD D (z_Z G)) k b = z_J D k b := fun k => if_neg hb
  have h7 : z_U (z_nD D (z_Z G)) b = z_U D b := funext fun j => if_neg hb
  have h8 : z_Y (z_nD D (z_Z G)) b = z_Y D b := funext fun j => if_neg hb
  have hf : z_fv q (z_nG G kd len) (z_nD D (z_Z G)) b = z_fv q G D b := by
    funext p
    unfold z_fv
    rw [h3, h5, h6]
  unfold z_c
  rw [h1, h2, h7, h8, hf]
  simp only [h4]
theorem z_Rel.push {q : z_Q} {G : z_G} {D D1 : z_D} {H H1 : Heap} {kd len : Nat} (hR : z_Rel q G D H) (hz : H1.size = H.size + 1) (ho : ∀ x, x < H.size → H1[x]? = H[x]?) {e : va_E} (he : z_c q (z_nG G kd len) D1 (z_Z G) = e) (hD : ∀ b, b ≠ z_Z G → z_c q (z_nG G kd len) D1 b = z_c q G D b) (hn : va_at q.1 vwCl (z_w q (z_Z G), e) H1) : z_Rel q (z_nG G kd len) D1 H1 := by
  have hlt : ∀ a ∈ z_L G, a < z_Z G := fun a ha => by
    obtain ⟨k, hk⟩ := va_pl_get (X := []) (f := z_ce q G D) (show z_w q a ∈ z_aL q G from List.mem_map.mpr ⟨a, ha, rfl⟩)
    have h1 := (hR.1 k _ hk).lt
    rw [hR.2.2.2.2] at h1
    have h1 : z_w q a < z_w q (z_Z G) := h1
    unfold z_w at h1
    omega
  have hb := hR.2.2.1
  have hsz := hR.2.2.2.2
  refine ⟨?_, ⟨fun a ha => ?_, ?_, fun a ha => ?_⟩, ⟨hb.1, by omega⟩, fun a ha => (ho a (by omega)).trans (hR.2.2.2.1 a ha), ?_⟩
  · have hpl : va_pl (z_aL q (z_nG G kd len)) (z_ce q (z_nG G kd len) D1) = va_pl (z_aL q G) (z_ce q G D) ++ [(z_w q (z_Z G), e)] := by
      unfold z_aL
      show va_pl ((z_L G ++ [z_Z G]).map (z_w q)) _ = _
      unfold va_pl
      rw [List.map_append, List.map_append]
      congr 1
      · rw [List.map_map, List.map_map]
        apply List.map_congr_left
        intro b hbm
        show (z_w q b, z_ce q (z_nG G kd len) D1 (z_w q b)) = (z_w q b, z_ce q G D (z_w q b))
        rw [z_ce_w, z_ce_w, hD b (fun h9 => by have := hlt b hbm; omega)]
      · show [(z_w q (z_Z G), z_ce q (z_nG G kd len) D1 (z_w q (z_Z G)))] = _
        rw [z_ce_w, he]
    rw [hpl]
    refine (hR.1.kept (fun k x hx => ho x.1 ((hR.1 k x hx).lt))).app (fun k x hx => ?_)
    have hk : k < 1 := (List.getElem?_eq_some_iff.mp hx).1
    rw [show k = 0 by omega] at hx
    cases hx
    exact hn
  · rcases List.mem_append.mp ha with h | h
    · exact hR.2.1.1 a h
    · rw [List.mem_singleton.mp h]
      have hsz : H.size = z_b q - 1 + z_Z G := hsz
      omega
  · refine List.nodup_append.mpr ⟨hR.2.1.2.1, List.nodup_cons.mpr ⟨List.not_mem_nil, List.nodup_nil⟩, fun a ha b hb2 => ?_⟩
    rw [List.mem_singleton.mp hb2]
    have := hlt a ha
    omega
  · by_cases h : a = z_Z G
    · rw [h]; exact List.mem_append_right _ List.mem_cons_self
    · exact List.mem_append_left _ (hR.2.1.2.2 a (fun h9 => ha ((if_neg h).trans h9)))
  · rw [hz, hsz]
    rfl
section ZN
variable {q : z_Q} {X : z_X} {cc : ByteArray} {nL : Nat} {own nm : String} {ret : Option FieldType} {Q : State → Prop} {k n : Nat} {G : z_G} {D : z_D} {pc : Nat} {lv : List (Nat × Value)} {st : List Value} {R0 : Room}
theorem v_widen {k1 n1 : Nat} (hk : k ≤ k1) (hn : n ≤ n1) (h : z_V q X nL Q k1 n1 G D pc lv st) : z_V q X nL Q k n G D pc lv st := fun H locs ls hR hl hv => W.widen hk hn (h H locs ls hR hl hv)
theorem z_new (o : z_O q X cc nL own nm ret) (ci : Nat) {C : String} {T : u_T} {N : Nat} (hc : vwCl[ci]? = some (C, T, N)) (hin : ∀ w ∈ u_ws C T N, w ∈ lw_tbl) (ty : Nat → FieldType) (hty : ∀ k, k < N → parseFieldDescriptor (T k).2.2.1 = some (ty k)) (hfs : ∀ j, j < N → defaultValue (ty j) = vp_V ((z_T ci).map z_dv) j) {i : Nat} (hw : Cond.classLink own i C ∈ lw_tbl) (hwi : Cond.instantiable C N ∈ lw_tbl) (hwn : Cond.initialized C ∈ lw_tbl) (hX : x_R X = R0) (hr : k + 1 ≤ R0.cells ∧ n + N ≤ R0.slots) (d : decode cc pc = .ok (.new i, 3))
    (h : z_V q X nL Q (k + 1) (n + N) (z_nG G (100 + ci) 0) (z_nD D (z_Z G)) (pc + 3) lv (.ref (z_w q (z_Z G)) :: st)) : z_V q X nL Q k n G D pc lv st := by
  intro H locs ls hR hl hv
  have hin' : ∀ w ∈ u_ws C T N, w ∈ z_tb := fun w h => z_tb_in (hin w h) (by
    obtain ⟨b, -, rfl⟩ := List.mem_map.mp h
    unfold u_lay
    split <;> rfl)
  have hKn := o.kn.1 ci _ hc
  refine W.newcK o.ex o.cd o.ow (o.tw hw rfl) (o.tw hwi rfl) (o.tw hwn rfl) rfl d (by rw [hX]; exact hr.1) (by rw [hX]; exact hr.2) hKn.2.1 hR.2.2.2.2 fun H1 kC hkC e1 z1 o1 => ?_
  refine h H1 locs ls (hR.push (by rw [z1, hR.2.2.2.2]) (fun x hx => o1 x (by rw [← hR.2.2.2.2]; exact hx)) (z_c_ob (if_pos rfl)) (fun b hb => z_c_old hb) ?_) hl hv
  rw [z_fv_new]
  exact ⟨_, hc, (u_born ty o.ts hin' hKn hkC e1 hty).to hfs⟩
theorem v_newI (o : z_O q X cc nL own nm ret) {v : Int32} (B : Nat) (hw : Cond.arrayClass .int ∈ lw_tbl) (hv0 : 0 ≤ v) (hB : v.toNatClampNeg ≤ B) (hB4 : B ≤ 4000) (hX : x_R X = R0) (hr : k + 1 ≤ R0.cells ∧ n + B ≤ R0.slots) (d : decode cc pc = .ok (.newarray .int, 2))
    (h : z_V q X nL Q (k + 1) (n + B) (z_nG G 1 v.toNatClampNeg) (z_nD D (z_Z G)) (pc + 2) lv (.ref (z_w q (z_Z G)) :: st)) : z_V q X nL Q k n G D pc lv (.int v :: st) := by
  intro H locs ls hR hl hv
  have hn : ¬ v < 0 := fun e => by
    rw [Int32.le_iff_toInt_le] at hv0
    rw [Int32.lt_iff_toInt_lt] at e
    omega
  refine va_newaK (atype := .int) o.ex o.cd (o.tw hw rfl) rfl d rfl hn rfl (by show _ * 4 ≤ _; omega) (by rw [hX]; exact hr.1) (by rw [hX]; exact Nat.le_trans (Nat.add_le_add_left hB n) hr.2) hR.2.2.2.2 fun H1 cA e1 z1 o1 hAr hNm => ?_
  have hcA : cA = q.2.1.1 := Option.some.inj (hNm.symm.trans (o.kn.2 0 _ rfl).2)
  subst hcA
  refine W.widen (Nat.le_refl _) (Nat.add_le_add_left hB n) (h H1 locs ls (hR.push (by rw [z1, hR.2.2.2.2]) (fun x hx => o1 x (by rw [← hR.2.2.2.2]; exact hx)) (z_c_1 (if_pos rfl)) (fun b hb => z_c_old hb) ?_) hl hv)
  show H1[z_w q (z_Z G)]? = some (vp_cell _ _)
  rw [e1, vp_cell_i]
  have hN : z_N (z_nG G 1 v.toNatClampNeg) (z_Z G) = v.toNatClampNeg := if_pos rfl
  have hU : z_U (z_nD D (z_Z G)) (z_Z G) = fun _ => 0 := funext fun j => if_pos rfl
  rw [hN, hU]
  rfl
theorem v_newJ (o : z_O q X cc nL own nm ret) {v : Int32} (B : Nat) (hw : Cond.arrayClass .long ∈ lw_tbl) (hv0 : 0 ≤ v) (hB : v.toNatClampNeg ≤ B) (hB4 : B ≤ 4000) (hX : x_R X = R0) (hr : k + 1 ≤ R0.cells ∧ n + B ≤ R0.slots) (d : decode cc pc = .ok (.newarray .long, 2))
    (h : z_V q X nL Q (k + 1) (n + B) (z_nG G 2 v.toNatClampNeg) (z_nD D (z_Z G)) (pc + 2) lv (.ref (z_w q (z_Z G)) :: st)) : z_V q X nL Q k n G D pc lv (.int v :: st) := by
  intro H locs ls hR hl hv
  have hn : ¬ v < 0 := fun e => by
    rw [Int32.le_iff_toInt_le] at hv0
    rw [Int32.lt_iff_toInt_lt] at e
    omega
  refine va_newaK (atype := .long) o.ex o.cd (o.tw hw rfl) rfl d rfl hn rfl (by show _ * 8 ≤ _; omega) (by rw [hX]; exact hr.1) (by rw [hX]; exact Nat.le_trans (Nat.add_le_add_left hB n) hr.2) hR.2.2.2.2 fun H1 cA e1 z1 o1 hAr hNm => ?_
  have hcA : cA = q.2.1.2.1 := Option.some.inj (hNm.symm.trans (o.kn.2 1 _ rfl).2)
  subst hcA
  refine W.widen (Nat.le_refl _) (Nat.add_le_add_left hB n) (h H1 locs ls (hR.push (by rw [z1, hR.2.2.2.2]) (fun x hx => o1 x (by rw [← hR.2.2.2.2]; exact hx)) (z_c_2 (if_pos rfl)) (fun b hb => z_c_old hb) ?_) hl hv)
  show H1[z_w q (z_Z G)]? = some (vp_cell _ _)
  rw [e1, vp_cell_l]
  have hN : z_N (z_nG G 2 v.toNatClampNeg) (z_Z G) = v.toNatClampNeg := if_pos rfl
  have hU : z_Y (z_nD D (z_Z G)) (z_Z G) = fun _ => 0 := funext fun j => if_pos rfl
  rw [hN, hU]
  rfl
theorem v_newQ (o : z_O q X cc nL own nm ret) {v : Int32} {i : Nat} (B : Nat) (hw : Cond.classLink own i "FlashTrust$Shelf" ∈ lw_tbl) (hv0 : 0 ≤ v) (hB : v.toNatClampNeg ≤ B) (hB4 : B ≤ 4000) (hX : x_R X = R0) (hr : k + 1 ≤ R0.cells ∧ n + B ≤ R0.slots) (d : decode cc pc = .ok (.anewarray i, 3))
    (h : z_V q X nL Q (k + 1) (n + B) (z_nG G 3 v.toNatClampNeg) (z_nD D (z_Z G)) (pc + 3) lv (.ref (z_w q (z_Z G)) :: st)) : z_V q X nL Q k n G D pc lv (.int v :: st) := by
  intro H locs ls hR hl hv
  have hn : ¬ v < 0 := fun e => by
    rw [Int32.le_iff_toInt_le] at hv0
    rw [Int32.lt_iff_toInt_lt] at e
    omega
  refine W.anew o.ex o.cd o.ow (o.tw hw rfl) (va_AO.use o.st.2.1) rfl d rfl hn (by omega) (by rw [hX]; exact hr.1) (by rw [hX]; exact Nat.le_trans (Nat.add_le_add_left hB n) hr.2) fun cA kA comp f1 f2 f3 f4 => ?_
  obtain ⟨kA', comp', g1, g2, g3, g4⟩ := (o.kn.2 2 _ rfl).2
  have hcA : cA = q.2.1.2.2 := Option.some.inj (f1.symm.trans g4)
  subst hcA
  generalize hH1 : H.push ({ cls := q.2.1.2.2, slots := Array.replicate v.toNatClampNeg .null, vm := .none } : Cell) = H1
  have z1 : H1.size = H.size + 1 := by rw [← hH1, Array.size_push]
  have e1 : H1[H.size]? = some (arrV q.2.1.2.2 v.toNatClampNeg (fun _ => .null)) := by rw [← hH1, Array.getElem?_push_size, ← arrV_new]
  have o1 : ∀ x : Nat, x < H.size → H1[x]? = H[x]? := fun x hx => by rw [← hH1, Array.getElem?_push, if_neg (Nat.ne_of_lt hx)]
  rw [hR.2.2.2.2]
  refine W.widen (Nat.le_refl _) (Nat.add_le_add_left hB n) (h H1 locs ls (hR.push z1 o1 (z_c_3 (if_pos rfl)) (fun b hb => z_c_old hb) ?_) hl hv)
  show H1[z_w q (z_Z G)]? = some (vp_cell _ _)
  rw [← hR.2.2.2.2, e1, vp_cell_q]
  have hN : z_N (z_nG G 3 v.toNatClampNeg) (z_Z G) = v.toNatClampNeg := if_pos rfl
  have hA : (fun j => z_o q (z_A (z_nG G 3 v.toNatClampNeg) (z_Z G) j)) = fun _ => none := funext fun j => by
    have : z_A (z_nG G 3 v.toNatClampNeg) (z_Z G) j = 0 := if_pos rfl
    rw [this]; rfl
  have hA2 : ∀ j, z_o q (z_A (z_nG G 3 v.toNatClampNeg) (z_Z G) j) = none := fun j => congrFun hA j
  simp only [hN, hA2]
  rfl
theorem z_A_sA (G : z_G) (a j v : Nat) (a' j' : Nat) : z_A (z_sA G a j v) a' j' = if a' = a ∧ j' = j then v else z_A G a' j' := rfl
theorem v_aast (o : z_O q X cc nL own nm ret) {a v : Nat} {i : Int32} (hK : z_K G a = 3) (hi : vp_in i (z_N G a)) (hv0 : z_K G v = 106) (d : decode cc pc = .ok (.aastore, 1)) (h : z_V q X nL Q k n (z_sA G a i.toNatClampNeg v) D (pc + 1) lv st) : z_V q X nL Q k n G D pc lv (.ref (z_w q v) :: .int i :: .ref (z_w q a) :: st) := by
  intro H locs ls hR hl hv
  have hK0 : z_K G a ≠ 0 := by omega
  have hV0 : z_K G v ≠ 0 := by omega
  obtain ⟨p0, hp⟩ := hR.get hK0
  have hp1 := hp
  rw [z_c_3 hK] at hp
  obtain ⟨pv, hpv⟩ := hR.get hV0
  rw [z_c_ob (ci := 6) hv0] at hpv
  have hba : z_b q ≤ z_w q a := hR.in (hR.mem hK0)
  have hvz : v ≠ 0 := fun e => by
    have := hR.2.1.1 v (hR.mem hV0)
    omega
  have hlt : i.toNatClampNeg < z_N G a := Nat.not_le.mp fun e => hi (Or.inr e)
  have h0 : ¬ i < 0 := fun e => hi (Or.inl e)
  obtain ⟨r', hr', cellV, g1, g2, g3, -⟩ := hR.1 pv _ hpv
  have hcls := (o.kn.1 6 _ rfl).2
  obtain ⟨kA, comp, k1, k2, k3, -⟩ := (o.kn.2 2 _ rfl).2
  have hcomp : comp = q.1.1 6 := Option.some.inj (k3.symm.trans hcls.1)
  subst hcomp
  obtain ⟨kC, hkC, -⟩ := hcls.2
  refine W.aast o.ex o.cd (hR.1 p0 _ hp) (fun q h => by cases h) (fun h => by cases h) k1 k2 rfl hkC ⟨h0, by show _ < (arrV _ _ _).slots.size; rw [arrV_size]; exact hlt⟩ g1 (fun q h => by rw [g3] at h; cases h) (by rw [g2]; exact hkC) (by rw [g2]; exact va_assign hcls) rfl rfl d fun H1 e z oq => ?_
  have hP1 : va_P q.1 vwCl ((va_pl (z_aL q G) (z_ce q G D)).set p0 (z_w q a, .inl (q.2.1.2.2, z_N G a, .inr (.inr (.inr (.inr (fun j => z_o q (z_A (z_sA G a i.toNatClampNeg v) a j)))))))) H1 := by
    refine hR.1.set hR.D hp ?_ oq
    show H1[z_w q a]? = some (vp_cell _ _)
    rw [e]
    show some ((arrV _ _ _).setSlot _ _) = _
    rw [vp_cell_q, arrV_store]
    congr 2
    funext j
    unfold updV
    show _ = va_rf (z_o q (z_A (z_sA G a i.toNatClampNeg v) a j))
    rw [z_A_sA]
    by_cases hj : j = i.toNatClampNeg
    · rw [if_pos hj, if_pos ⟨rfl, hj⟩]
      unfold z_o
      rw [if_neg hvz]
      rfl
    · rw [if_neg hj, if_neg (fun h9 => hj h9.2)]
  rw [z_pl_set hR.D (hR.memA hK0) hp1] at hP1
  have hne : ∀ b, b ≠ a → z_c q (z_sA G a i.toNatClampNeg v) D b = z_c q G D b := fun b hb => by
    have h1 : ∀ j, z_A (z_sA G a i.toNatClampNeg v) b j = z_A G b j := fun j => if_neg (fun h9 => hb h9.1)
    have hf : z_fv q (z_sA G a i.toNatClampNeg v) D b = z_fv q G D b := rfl
    have h2 : z_K (z_sA G a i.toNatClampNeg v) b = z_K G b := rfl
    have h3 : z_N (z_sA G a i.toNatClampNeg v) b = z_N G b := rfl
    unfold z_c
    rw [h2, h3, hf]
    simp only [h1]
  exact h H1 _ ls (hR.upd hK0 rfl rfl rfl (z_c_3 hK) hne hP1 z (fun b hb => oq b (fun e => absurd hb (by rw [e]; exact Nat.not_lt.mpr hba)))) (z_lc hl hba _) hv
theorem v_objInit (o : z_O q X cc nL own nm ret) {i : Nat} {a : Nat} (hw : Cond.methodLink own i Lib.objectInit ∈ lw_tbl) (hwi : Cond.instanceMethod Lib.objectInit ∈ lw_tbl) (hwc : Cond.code Lib.objectInit ⟨#[0xb1]⟩ 1 none ∈ lw_tbl) (hX : x_R X = R0) (hr : 1 ≤ R0.frames ∧ 20 ≤ R0.locals) (hs : (st.map fun v => v.category).sum ≤ 8) (d : decode cc pc = .ok (.invokespecial i, 3)) (h : z_V q X nL Q k n G D (pc + 3) lv st) : z_V q X nL Q k n G D pc lv (.ref a :: st) := by
  intro H locs ls hR hl hv
  refine W.objInit o.ex o.cd o.ow (o.tw hw rfl) (o.tw hwi rfl) (o.tw hwc rfl) rfl (by rw [o.ml]; exact hv.1) rfl d (by rw [hX]; exact hr.1) (by rw [hX]; exact Nat.le_trans (Nat.add_le_add_right (lv_room hs) 12) hr.2) ?_
  exact h H locs ls hR hl hv
end ZN
section ZM
variable {q : z_Q} {X : z_X} {cc : ByteArray} {nL : Nat} {own nm : String} {ret : Option FieldType} {Q : State → Prop} {k n : Nat} {G : z_G} {D : z_D} {pc : Nat} {lv : List (Nat × Value)} {st : List Value}
variable {y : MethodName} {bytes : ByteArray} {maxL : Nat} {dp mc ms nA i b : Nat} {As : List Value} {st0 : List Value} {G1 : z_G} {D1 : z_D} {R0 : Room} {host : String}
/-- invokespecial of a nest mate's constructor -/
theorem v_callIN (o : z_O q X cc nL own nm ret) (yw : z_yw y bytes maxL none nA) (hy : y.name = "<init>") (hw : Cond.methodLinkNest own i y host ∈ z_nw) (hwi : Cond.instanceMethod y ∈ lw_tbl) (hX : x_R X = R0) (hr : dp + 1 ≤ R0.frames ∧ 8 + (maxL + 11) + 40 * dp ≤ R0.locals ∧ k + mc ≤ R0.cells ∧ n + ms ≤ R0.slots)
    (hn : As.length = nA) (hst : st0 = As.reverse ++ .ref (z_w q b) :: st) (hW : (st.map fun v => v.category).sum ≤ 8) (E : z_E q (x_l X) y bytes maxL none dp mc ms (.ref (z_w q b) :: As) G D none G1 D1) (d : decode cc pc = .ok (.invokespecial i, 3))
    (h : z_V q X nL Q (k + mc) (n + ms) G1 D1 (pc + 3) lv st) : z_V q X nL Q k n G D pc lv st0 := by
  intro H locs ls hR hl hv
  exact z_back (va_runIN (As := As) (rest := st) (n := nA) ⟨o.ex, o.cd, o.ml, o.ow, o.ts⟩ E ⟨va_cnB nA o.ts (z_GI yw.1) rfl rfl rfl (o.st.1 _ hw) (o.tw yw.2.1 rfl) yw.2.2 (by rw [hX]; exact ⟨hr.1, hr.2.1⟩), hy, o.tw hwi rfl⟩ ⟨z_Pre.blind, fun U hU hW => ⟨rfl, by rw [hU]; exact hR, o.kn.moved hW.alike, o.st.warm hW⟩⟩ rfl hn hv.1 hst (lv_room hW) d (z_cf hX hr)) hl hv h
/-- the static rows -/
theorem z_stS {H : Heap} {locs : List Loc} (o : z_O q X cc nL own nm ret) (hR : z_Rel q G D H) (hl : ∀ l ∈ locs, z_b q ≤ l.base) (hs : (x_s X).heap.size ≤ H.size) : va_S (fun a => z_b q ≤ a) (x_s X).heap H locs :=
  ⟨hs, fun a _ hb => (hR.2.2.2.1 a (Nat.not_le.mp hb)).trans (o.hp a (Nat.not_le.mp hb)).symm, hl⟩
end ZM
end
