def f_X6_secondCounts (G : z_G) (D : z_D) (a0 : Nat) : Option (Int32) :=
  z_gK G 100 (z_R G 602 a0) (z_gK G 100 (z_R G 601 a0) ((if (z_I D 4 (z_R G 602 a0)) ≤ (z_I D 4 (z_R G 601 a0)) then ((some (0 : Int32))) else (((some (1 : Int32)))))))
set_option maxRecDepth 100000 in
set_option maxHeartbeats 4000000 in
theorem b_X6_secondCounts {q : z_Q} {X : z_X} {G : z_G} {D : z_D} {a0 : Nat} {r : Int32} (o : z_O q X cX6_secondCounts 1 "FlashTrust$Shelf" "secondCounts" (some .boolean)) (hX : x_R X = z_rm 0 0 0) (hK0 : z_K G a0 = 106) (h : f_X6_secondCounts G D a0 = some r) : z_V q X 1 (z_F q X (some (.int r)) G D 0 0) 0 0 G D 0 [(0, .ref (z_w q a0))] [] := by
  unfold f_X6_secondCounts at h
  refine v_aload_n o dX6_secondCounts_0 rfl 0 rfl ?_
  obtain ⟨n1, h⟩ := z_gK_of h
  refine gt_6_2 o hK0 ln_2_45 (by rw [n1]; decide) dX6_secondCounts_1 ?_
  refine gt_0_4 o n1 ln_2_20 dX6_secondCounts_4 ?_
  refine v_aload_n o dX6_secondCounts_7 rfl 0 rfl ?_
  obtain ⟨n2, h⟩ := z_gK_of h
  refine gt_6_1 o hK0 ln_2_44 (by rw [n2]; decide) dX6_secondCounts_8 ?_
  refine gt_0_4 o n2 ln_2_20 dX6_secondCounts_11 ?_
  refine v_icmp_le o 21 dX6_secondCounts_14 (by decide) (fun c3 => ?_) (fun c3 => ?_)
  · replace h := z_ip c3 h
    refine v_iconst o (0 : Int32) dX6_secondCounts_21 (by decide) ?_
    have hr := z_some h
    subst hr
    exact v_zreturn o (by decide) dX6_secondCounts_22
  · replace h := z_in c3 h
    refine v_iconst o (1 : Int32) dX6_secondCounts_17 (by decide) ?_
    refine v_goto o 22 dX6_secondCounts_18 (by decide) ?_
    have hr := z_some h
    subst hr
    exact v_zreturn o (by decide) dX6_secondCounts_22
theorem e_X6_secondCounts {q : z_Q} {l : Launch} {G : z_G} {D : z_D} {a0 : Nat} {r : Int32} (hK0 : z_K G a0 = 106) (h : f_X6_secondCounts G D a0 = some r) : z_E q l yX6_secondCounts cX6_secondCounts 1 (some .boolean) 0 0 0 [.ref (z_w q a0)] G D (some (.int r)) G D :=
  z_E.of (by decide) (Nat.le_of_ble_eq_true rfl) (fun X hX _ o => b_X6_secondCounts o hX hK0 h)
def f_X6_counting (G : z_G) (D : z_D) (a0 : Nat) : Option (Nat) :=
  (f_X6_secondCounts G D a0).bind (fun r2 => ((if r2 = (0 : Int32) then (z_gK G 100 (z_R G 601 a0) ((some (z_R G 601 a0)))) else (z_gK G 100 (z_R G 602 a0) (((some (z_R G 602 a0))))))))
set_option maxRecDepth 100000 in
set_option maxHeartbeats 4000000 in
theorem b_X6_counting {q : z_Q} {X : z_X} {G : z_G} {D : z_D} {a0 : Nat} {r : Nat} (o : z_O q X cX6_counting 1 "FlashTrust$Shelf" "counting" (some (.object "FlashTrust$Entry"))) (hX : x_R X = z_rm 1 0 0) (hK0 : z_K G a0 = 106) (h : f_X6_counting G D a0 = some r) : z_V q X 1 (z_F q X (some (.ref (z_w q r))) G D 0 0) 0 0 G D 0 [(0, .ref (z_w q a0))] [] := by
  unfold f_X6_counting at h
  refine v_aload_n o dX6_counting_0 rfl 0 rfl ?_
  obtain ⟨r2, he1, h⟩ := z_bind h
  refine v_callV o yw_X6_secondCounts ln_3_225 wi_X6_secondCounts ws_X6_secondCounts hX (by decide) 6 rfl hK0 (As := []) rfl rfl (Nat.le_of_ble_eq_true rfl) (e_X6_secondCounts hK0 he1) dX6_counting_1 ?_
  refine v_if_eq o 14 dX6_counting_4 (by decide) (fun c3 => ?_) (fun c3 => ?_)
  · replace h := z_ip c3 h
    refine v_aload_n o dX6_counting_14 rfl 0 rfl ?_
    obtain ⟨n4, h⟩ := z_gK_of h
    refine gt_6_1 o hK0 ln_2_44 (by rw [n4]; decide) dX6_counting_15 ?_
    have hr := z_some h
    subst hr
    exact v_areturn o dX6_counting_18
  · replace h := z_in c3 h
    refine v_aload_n o dX6_counting_7 rfl 0 rfl ?_
    obtain ⟨n5, h⟩ := z_gK_of h
    refine gt_6_2 o hK0 ln_2_45 (by rw [n5]; decide) dX6_counting_8 ?_
    refine v_goto o 18 dX6_counting_11 (by decide) ?_
    have hr := z_some h
    subst hr
    exact v_areturn o dX6_counting_18
theorem e_X6_counting {q : z_Q} {l : Launch} {G : z_G} {D : z_D} {a0 : Nat} {r : Nat} (hK0 : z_K G a0 = 106) (h : f_X6_counting G D a0 = some r) : z_E q l yX6_counting cX6_counting 1 (some (.object "FlashTrust$Entry")) 1 0 0 [.ref (z_w q a0)] G D (some (.ref (z_w q r))) G D :=
  z_E.of (by decide) (Nat.le_of_ble_eq_true rfl) (fun X hX _ o => b_X6_counting o hX hK0 h)
def f_X6_number (G : z_G) (D : z_D) (a0 : Nat) : Option (Int32) :=
  z_gK G 100 (z_R G 601 a0) (z_gK G 100 (z_R G 602 a0) ((some (if (z_I D 4 (z_R G 601 a0)) < (z_I D 4 (z_R G 602 a0)) then (z_I D 4 (z_R G 602 a0)) else (z_I D 4 (z_R G 601 a0))))))
set_option maxRecDepth 100000 in
set_option maxHeartbeats 4000000 in
theorem b_X6_number {q : z_Q} {X : z_X} {G : z_G} {D : z_D} {a0 : Nat} {r : Int32} (o : z_O q X cX6_number 1 "FlashTrust$Shelf" "number" (some .int)) (hX : x_R X = z_rm 1 0 0) (hK0 : z_K G a0 = 106) (h : f_X6_number G D a0 = some r) : z_V q X 1 (z_F q X (some (.int r)) G D 0 0) 0 0 G D 0 [(0, .ref (z_w q a0))] [] := by
  unfold f_X6_number at h
  refine v_aload_n o dX6_number_0 rfl 0 rfl ?_
  obtain ⟨n1, h⟩ := z_gK_of h
  refine gt_6_1 o hK0 ln_2_44 (by rw [n1]; decide) dX6_number_1 ?_
  refine gt_0_4 o n1 ln_2_20 dX6_number_4 ?_
  refine v_aload_n o dX6_number_7 rfl 0 rfl ?_
  obtain ⟨n2, h⟩ := z_gK_of h
  refine gt_6_2 o hK0 ln_2_45 (by rw [n2]; decide) dX6_number_8 ?_
  refine gt_0_4 o n2 ln_2_20 dX6_number_11 ?_
  refine v_mmax o ln_3_220 hX (by decide) (Nat.le_of_ble_eq_true rfl) dX6_number_14 ?_
  have hr := z_some h
  subst hr
  exact v_ireturn o dX6_number_17
theorem e_X6_number {q : z_Q} {l : Launch} {G : z_G} {D : z_D} {a0 : Nat} {r : Int32} (hK0 : z_K G a0 = 106) (h : f_X6_number G D a0 = some r) : z_E q l yX6_number cX6_number 1 (some .int) 1 0 0 [.ref (z_w q a0)] G D (some (.int r)) G D :=
  z_E.of (by decide) (Nat.le_of_ble_eq_true rfl) (fun X hX _ o => b_X6_number o hX hK0 h)
def f_X6_holds (G : z_G) (D : z_D) (a0 : Nat) : Option (Int32) :=
  (if (z_I D 604 a0) = (0 : Int32) then ((f_X6_number G D a0).bind (fun r3 => ((if r3 ≤ (0 : Int32) then ((some (0 : Int32))) else ((f_X6_counting G D a0).bind (fun r6 => (z_gK G 100 r6 ((if (z_I D 5 r6) = (0 : Int32) then ((some (0 : Int32))) else (((some (1 : Int32))))))))))))) else (((some (1 : Int32)))))
set_option maxRecDepth 100000 in
set_option maxHeartbeats 4000000 in
theorem b_X6_holds {q : z_Q} {X : z_X} {G : z_G} {D : z_D} {a0 : Nat} {r : Int32} (o : z_O q X cX6_holds 1 "FlashTrust$Shelf" "holds" (some .boolean)) (hX : x_R X = z_rm 2 0 0) (hK0 : z_K G a0 = 106) (h : f_X6_holds G D a0 = some r) : z_V q X 1 (z_F q X (some (.int r)) G D 0 0) 0 0 G D 0 [(0, .ref (z_w q a0))] [] := by
  unfold f_X6_holds at h
  refine v_aload_n o dX6_holds_0 rfl 0 rfl ?_
  refine gt_6_4 o hK0 ln_2_47 dX6_holds_1 ?_
  refine v_if_ne o 24 dX6_holds_4 (by decide) (fun c1 => ?_) (fun c1 => ?_)
  · replace h := z_in c1 h
    refine v_iconst o (1 : Int32) dX6_holds_24 (by decide) ?_
    refine v_goto o 29 dX6_holds_25 (by decide) ?_
    have hr := z_some h
    subst hr
    exact v_zreturn o (by decide) dX6_holds_29
  · replace h := z_ip c1 h
    refine v_aload_n o dX6_holds_7 rfl 0 rfl ?_
    obtain ⟨r3, he2, h⟩ := z_bind h
    refine v_callV o yw_X6_number ln_3_216 wi_X6_number ws_X6_number hX (by decide) 6 rfl hK0 (As := []) rfl rfl (Nat.le_of_ble_eq_true rfl) (e_X6_number hK0 he2) dX6_holds_8 ?_
    refine v_if_le o 28 dX6_holds_11 (by decide) (fun c4 => ?_) (fun c4 => ?_)
    · replace h := z_ip c4 h
      refine v_iconst o (0 : Int32) dX6_holds_28 (by decide) ?_
      have hr := z_some h
      subst hr
      exact v_zreturn o (by decide) dX6_holds_29
    · replace h := z_in c4 h
      refine v_aload_n o dX6_holds_14 rfl 0 rfl ?_
      obtain ⟨r6, he5, h⟩ := z_bind h
      refine v_callV o yw_X6_counting ln_3_221 wi_X6_counting ws_X6_counting hX (by decide) 6 rfl hK0 (As := []) rfl rfl (Nat.le_of_ble_eq_true rfl) (e_X6_counting hK0 he5) dX6_holds_15 ?_
      obtain ⟨n7, h⟩ := z_gK_of h
      refine gt_0_5 o n7 ln_2_22 dX6_holds_18 ?_
      refine v_if_eq o 28 dX6_holds_21 (by decide) (fun c8 => ?_) (fun c8 => ?_)
      · replace h := z_ip c8 h
        refine v_iconst o (0 : Int32) dX6_holds_28 (by decide) ?_
        have hr := z_some h
        subst hr
        exact v_zreturn o (by decide) dX6_holds_29
      · replace h := z_in c8 h
        refine v_iconst o (1 : Int32) dX6_holds_24 (by decide) ?_
        refine v_goto o 29 dX6_holds_25 (by decide) ?_
        have hr := z_some h
        subst hr
        exact v_zreturn o (by decide) dX6_holds_29
theorem e_X6_holds {q : z_Q} {l : Launch} {G : z_G} {D : z_D} {a0 : Nat} {r : Int32} (hK0 : z_K G a0 = 106) (h : f_X6_holds G D a0 = some r) : z_E q l yX6_holds cX6_holds 1 (some .boolean) 2 0 0 [.ref (z_w q a0)] G D (some (.int r)) G D :=
  z_E.of (by decide) (Nat.le_of_ble_eq_true rfl) (fun X hX _ o => b_X6_holds o hX hK0 h)
def f_X6_paper (G : z_G) (D : z_D) (a0 : Nat) : Option (Nat) :=
  (f_X6_number G D a0).bind (fun r2 => ((if r2 = (0 : Int32) then ((if (z_I D 604 a0) = (0 : Int32) then ((f_X6_counting G D a0).bind (fun r10 => (z_gK G 100 r10 (z_gK G 104 (z_R G 3 r10) ((some (z_R G 3 r10))))))) else (z_gK G 104 (z_R G 603 a0) (((some (z_R G 603 a0))))))) else ((f_X6_counting G D a0).bind (fun r5 => (z_gK G 100 r5 (z_gK G 104 (z_R G 3 r5) ((some (z_R G 3 r5))))))))))
set_option maxRecDepth 100000 in
set_option maxHeartbeats 4000000 in
theorem b_X6_paper {q : z_Q} {X : z_X} {G : z_G} {D : z_D} {a0 : Nat} {r : Nat} (o : z_O q X cX6_paper 1 "FlashTrust$Shelf" "paper" (some (.object "FlashTrust$Paper"))) (hX : x_R X = z_rm 2 0 0) (hK0 : z_K G a0 = 106) (h : f_X6_paper G D a0 = some r) : z_V q X 1 (z_F q X (some (.ref (z_w q r))) G D 0 0) 0 0 G D 0 [(0, .ref (z_w q a0))] [] := by
  unfold f_X6_paper at h
  refine v_aload_n o dX6_paper_0 rfl 0 rfl ?_
  obtain ⟨r2, he1, h⟩ := z_bind h
  refine v_callV o yw_X6_number ln_3_216 wi_X6_number ws_X6_number hX (by decide) 6 rfl hK0 (As := []) rfl rfl (Nat.le_of_ble_eq_true rfl) (e_X6_number hK0 he1) dX6_paper_1 ?_
  refine v_if_ne o 21 dX6_paper_4 (by decide) (fun c3 => ?_) (fun c3 => ?_)
  · replace h := z_in c3 h
    refine v_aload_n o dX6_paper_21 rfl 0 rfl ?_
    obtain ⟨r5, he4, h⟩ := z_bind h
    refine v_callV o yw_X6_counting ln_3_221 wi_X6_counting ws_X6_counting hX (by decide) 6 rfl hK0 (As := []) rfl rfl (Nat.le_of_ble_eq_true rfl) (e_X6_counting hK0 he4) dX6_paper_22 ?_
    obtain ⟨n6, h⟩ := z_gK_of h
    obtain ⟨n7, h⟩ := z_gK_of h
    refine gt_0_3 o n6 ln_2_18 (by rw [n7]; decide) dX6_paper_25 ?_
    have hr := z_some h
    subst hr
    exact v_areturn o dX6_paper_28
  · replace h := z_ip c3 h
    refine v_aload_n o dX6_paper_7 rfl 0 rfl ?_
    refine gt_6_4 o hK0 ln_2_47 dX6_paper_8 ?_
    refine v_if_eq o 21 dX6_paper_11 (by decide) (fun c8 => ?_) (fun c8 => ?_)
    · replace h := z_ip c8 h
      refine v_aload_n o dX6_paper_21 rfl 0 rfl ?_
      obtain ⟨r10, he9, h⟩ := z_bind h
      refine v_callV o yw_X6_counting ln_3_221 wi_X6_counting ws_X6_counting hX (by decide) 6 rfl hK0 (As := []) rfl rfl (Nat.le_of_ble_eq_true rfl) (e_X6_counting hK0 he9) dX6_paper_22 ?_
      obtain ⟨n11, h⟩ := z_gK_of h
      obtain ⟨n12, h⟩ := z_gK_of h
      refine gt_0_3 o n11 ln_2_18 (by rw [n12]; decide) dX6_paper_25 ?_
      have hr := z_some h
      subst hr
      exact v_areturn o dX6_paper_28
    · replace h := z_in c8 h
      refine v_aload_n o dX6_paper_14 rfl 0 rfl ?_
      obtain ⟨n13, h⟩ := z_gK_of h
      refine gt_6_3 o hK0 ln_2_46 (by rw [n13]; decide) dX6_paper_15 ?_
      refine v_goto o 28 dX6_paper_18 (by decide) ?_
      have hr := z_some h
      subst hr
      exact v_areturn o dX6_paper_28
theorem e_X6_paper {q : z_Q} {l : Launch} {G : z_G} {D : z_D} {a0 : Nat} {r : Nat} (hK0 : z_K G a0 = 106) (h : f_X6_paper G D a0 = some r) : z_E q l yX6_paper cX6_paper 1 (some (.object "FlashTrust$Paper")) 2 0 0 [.ref (z_w q a0)] G D (some (.ref (z_w q r))) G D :=
  z_E.of (by decide) (Nat.le_of_ble_eq_true rfl) (fun X hX _ o => b_X6_paper o hX hK0 h)
def f_X6_holdsBodyOf (G : z_G) (D : z_D) (a0 : Nat) (a1 : Nat) : Option (Int32) :=
  (f_X6_holds G D a0).bind (fun r2 => ((if r2 = (0 : Int32) then ((some (0 : Int32))) else ((f_X6_paper G D a0).bind (fun r5 => (z_gK G 104 r5 ((f_X4_hasBodyOf G D r5 a1).bind (fun r8 => ((if r8 = (0 : Int32) then ((some (0 : Int32))) else (((some (1 : Int32))))))))))))))
set_option maxRecDepth 100000 in
set_option maxHeartbeats 4000000 in
theorem b_X6_holdsBodyOf {q : z_Q} {X : z_X} {G : z_G} {D : z_D} {a0 : Nat} {a1 : Nat} {r : Int32} (o : z_O q X cX6_holdsBodyOf 2 "FlashTrust$Shelf" "holdsBodyOf" (some .boolean)) (hX : x_R X = z_rm 3 0 0) (hK0 : z_K G a0 = 106) (h : f_X6_holdsBodyOf G D a0 a1 = some r) : z_V q X 2 (z_F q X (some (.int r)) G D 0 0) 0 0 G D 0 [(0, .ref (z_w q a0)), (1, .ref (z_w q a1))] [] := by
  unfold f_X6_holdsBodyOf at h
  refine v_aload_n o dX6_holdsBodyOf_0 rfl 0 rfl ?_
  obtain ⟨r2, he1, h⟩ := z_bind h
  refine v_callV o yw_X6_holds ln_4_129 wi_X6_holds ws_X6_holds hX (by decide) 6 rfl hK0 (As := []) rfl rfl (Nat.le_of_ble_eq_true rfl) (e_X6_holds hK0 he1) dX6_holdsBodyOf_1 ?_
  refine v_if_eq o 22 dX6_holdsBodyOf_4 (by decide) (fun c3 => ?_) (fun c3 => ?_)
  · replace h := z_ip c3 h
    refine v_iconst o (0 : Int32) dX6_holdsBodyOf_22 (by decide) ?_
    have hr := z_some h
    subst hr
    exact v_zreturn o (by decide) dX6_holdsBodyOf_23
  · replace h := z_in c3 h
    refine v_aload_n o dX6_holdsBodyOf_7 rfl 0 rfl ?_
    obtain ⟨r5, he4, h⟩ := z_bind h
    refine v_callV o yw_X6_paper ln_4_130 wi_X6_paper ws_X6_paper hX (by decide) 6 rfl hK0 (As := []) rfl rfl (Nat.le_of_ble_eq_true rfl) (e_X6_paper hK0 he4) dX6_holdsBodyOf_8 ?_
    refine v_aload_n o dX6_holdsBodyOf_11 rfl 1 rfl ?_
    obtain ⟨n6, h⟩ := z_gK_of h
    obtain ⟨r8, he7, h⟩ := z_bind h
    refine v_callV o yw_X4_hasBodyOf ln_4_131 wi_X4_hasBodyOf ws_X4_hasBodyOf hX (by decide) 4 rfl n6 (As := [.ref (z_w q a1)]) rfl rfl (Nat.le_of_ble_eq_true rfl) (e_X4_hasBodyOf n6 he7) dX6_holdsBodyOf_12 ?_
    refine v_if_eq o 22 dX6_holdsBodyOf_15 (by decide) (fun c9 => ?_) (fun c9 => ?_)
    · replace h := z_ip c9 h
      refine v_iconst o (0 : Int32) dX6_holdsBodyOf_22 (by decide) ?_
      have hr := z_some h
      subst hr
      exact v_zreturn o (by decide) dX6_holdsBodyOf_23
    · replace h := z_in c9 h
      refine v_iconst o (1 : Int32) dX6_holdsBodyOf_18 (by decide) ?_
      refine v_goto o 23 dX6_holdsBodyOf_19 (by decide) ?_
      have hr := z_some h
      subst hr
      exact v_zreturn o (by decide) dX6_holdsBodyOf_23
theorem e_X6_holdsBodyOf {q : z_Q} {l : Launch} {G : z_G} {D : z_D} {a0 : Nat} {a1 : Nat} {r : Int32} (hK0 : z_K G a0 = 106) (h : f_X6_holdsBodyOf G D a0 a1 = some r) : z_E q l yX6_holdsBodyOf cX6_holdsBodyOf 2 (some .boolean) 3 0 0 [.ref (z_w q a0), .ref (z_w q a1)] G D (some (.int r)) G D :=
  z_E.of (by decide) (Nat.le_of_ble_eq_true rfl) (fun X hX _ o => b_X6_holdsBodyOf o hX hK0 h)
def j_X6_keep_25 (G : z_G) (D : z_D) (a0 : Nat) (a1 : Nat) (s0 : Nat) : Option (z_D) :=
  z_gK G 105 (z_R G 605 a0) ((f_X5_empty G D (z_R G 605 a0)).bind (fun D7 => ((f_X6_number G D7 a0).bind (fun r9 => ((f_X5_addNumber G D7 (z_R G 605 a0) (((r9 + (1 : Int32))).toInt64) (4 : Int32)).bind (fun D11 => (z_gK G 105 a1 ((f_X5_size G D11 a1).bind (fun r14 => ((f_X5_addNumber G D11 (z_R G 605 a0) ((r14).toInt64) (2 : Int32)).bind (fun D16 => ((f_X5_size G D16 a1).bind (fun r18 => ((f_X5_addFrom G D16 (z_R G 605 a0) a1 (0 : Int32) r18).bind (fun D20 => ((f_X5_size G D20 (z_R G 605 a0)).bind (fun r22 => ((f_X5_hash G D20 (z_R G 605 a0) (0 : Int32) r22).bind (fun r24 => ((f_X5_checkOf G D20 r24).bind (fun r26 => ((f_X5_addNumber G D20 (z_R G 605 a0) r26 (4 : Int32)).bind (fun D28 => (z_gK G 101 (z_R G 600 a0) (z_gK G 100 s0 ((f_X1_erase G D28 (z_R G 600 a0) (z_I D28 2 s0)).bind (fun D32 => ((f_X1_writeAll G D32 (z_R G 600 a0) ((z_I D32 2 s0) * (4 : Int32)) (z_R G 605 a0)).bind (fun D34 => ((f_X0_look G D34 s0).bind (fun D36 => ((some D36)))))))))))))))))))))))))))))))))
set_option maxRecDepth 100000 in
set_option maxHeartbeats 4000000 in
theorem tj_X6_keep_25 {q : z_Q} {X : z_X} {G : z_G} {D : z_D} {a0 : Nat} {a1 : Nat} {s0 : Nat}  {D1 : z_D} (o : z_O q X cX6_keep 3 "FlashTrust$Shelf" "keep" none) (hX : x_R X = z_rm 4 0 0) (hK0 : z_K G a0 = 106) (h : j_X6_keep_25 G D a0 a1 s0 = some D1) : z_V q X 3 (z_F q X none G D1 0 0) 0 0 G D 25 [(0, .ref (z_w q a0)), (1, .ref (z_w q a1))] [.ref (z_w q s0)] := by
  unfold j_X6_keep_25 at h
  refine v_astore_n o [(2, .ref (z_w q s0)), (0, .ref (z_w q a0)), (1, .ref (z_w q a1))] dX6_keep_25 rfl (by decide) rfl ?_
  refine v_aload_n o dX6_keep_26 rfl 1 rfl ?_
  obtain ⟨n5, h⟩ := z_gK_of h
  refine gt_6_5 o hK0 ln_2_48 (by rw [n5]; decide) dX6_keep_27 ?_
  obtain ⟨D7, he6, h⟩ := z_bind h
  refine v_callV o yw_X5_empty ln_4_49 wi_X5_empty ws_X5_empty hX (by decide) 5 rfl n5 (As := []) rfl rfl (Nat.le_of_ble_eq_true rfl) (e_X5_empty n5 he6) dX6_keep_30 ?_
  refine v_aload_n o dX6_keep_33 rfl 1 rfl ?_
  refine gt_6_5 o hK0 ln_2_48 (by rw [n5]; decide) dX6_keep_34 ?_
  refine v_aload_n o dX6_keep_37 rfl 1 rfl ?_
  obtain ⟨r9, he8, h⟩ := z_bind h
  refine v_callV o yw_X6_number ln_3_216 wi_X6_number ws_X6_number hX (by decide) 6 rfl hK0 (As := []) rfl rfl (Nat.le_of_ble_eq_true rfl) (e_X6_number hK0 he8) dX6_keep_38 ?_
  refine v_iconst o (1 : Int32) dX6_keep_41 (by decide) ?_
  refine v_iadd o dX6_keep_42 ?_
  refine v_i2l o dX6_keep_43 ?_
  refine v_iconst o (4 : Int32) dX6_keep_44 (by decide) ?_
  obtain ⟨D11, he10, h⟩ := z_bind h
  refine v_callV o yw_X5_addNumber ln_4_50 wi_X5_addNumber ws_X5_addNumber hX (by decide) 5 rfl n5 (As := [.long ((r9 + (1 : Int32))).toInt64, .int (4 : Int32)]) rfl rfl (Nat.le_of_ble_eq_true rfl) (e_X5_addNumber n5 he10) dX6_keep_45 ?_
  refine v_aload_n o dX6_keep_48 rfl 1 rfl ?_
  refine gt_6_5 o hK0 ln_2_48 (by rw [n5]; decide) dX6_keep_49 ?_
  refine v_aload_n o dX6_keep_52 rfl 2 rfl ?_
  obtain ⟨n12, h⟩ := z_gK_of h
  obtain ⟨r14, he13, h⟩ := z_bind h
  refine v_callV o yw_X5_size ln_4_51 wi_X5_size ws_X5_size hX (by decide) 5 rfl n12 (As := []) rfl rfl (Nat.le_of_ble_eq_true rfl) (e_X5_size n12 he13) dX6_keep_53 ?_
  refine v_i2l o dX6_keep_56 ?_
  refine v_iconst o (2 : Int32) dX6_keep_57 (by decide) ?_
  obtain ⟨D16, he15, h⟩ := z_bind h
  refine v_callV o yw_X5_addNumber ln_4_50 wi_X5_addNumber ws_X5_addNumber hX (by decide) 5 rfl n5 (As := [.long (r14).toInt64, .int (2 : Int32)]) rfl rfl (Nat.le_of_ble_eq_true rfl) (e_X5_addNumber n5 he15) dX6_keep_58 ?_
  refine v_aload_n o dX6_keep_61 rfl 1 rfl ?_
  refine gt_6_5 o hK0 ln_2_48 (by rw [n5]; decide) dX6_keep_62 ?_
  refine v_aload_n o dX6_keep_65 rfl 2 rfl ?_
  refine v_iconst o (0 : Int32) dX6_keep_66 (by decide) ?_
  refine v_aload_n o dX6_keep_67 rfl 2 rfl ?_
  obtain ⟨r18, he17, h⟩ := z_bind h
  refine v_callV o yw_X5_size ln_4_51 wi_X5_size ws_X5_size hX (by decide) 5 rfl n12 (As := []) rfl rfl (Nat.le_of_ble_eq_true rfl) (e_X5_size n12 he17) dX6_keep_68 ?_
  obtain ⟨D20, he19, h⟩ := z_bind h
  refine v_callV o yw_X5_addFrom ln_4_52 wi_X5_addFrom ws_X5_addFrom hX (by decide) 5 rfl n5 (As := [.ref (z_w q a1), .int (0 : Int32), .int r18]) rfl rfl (Nat.le_of_ble_eq_true rfl) (e_X5_addFrom n5 he19) dX6_keep_71 ?_
  refine v_aload_n o dX6_keep_74 rfl 1 rfl ?_
  refine gt_6_5 o hK0 ln_2_48 (by rw [n5]; decide) dX6_keep_75 ?_
  refine v_aload_n o dX6_keep_78 rfl 1 rfl ?_
  refine gt_6_5 o hK0 ln_2_48 (by rw [n5]; decide) dX6_keep_79 ?_
  refine v_iconst o (0 : Int32) dX6_keep_82 (by decide) ?_
  refine v_aload_n o dX6_keep_83 rfl 1 rfl ?_
  refine gt_6_5 o hK0 ln_2_48 (by rw [n5]; decide) dX6_keep_84 ?_
  obtain ⟨r22, he21, h⟩ := z_bind h
  refine v_callV o yw_X5_size ln_4_51 wi_X5_size ws_X5_size hX (by decide) 5 rfl n5 (As := []) rfl rfl (Nat.le_of_ble_eq_true rfl) (e_X5_size n5 he21) dX6_keep_87 ?_
  obtain ⟨r24, he23, h⟩ := z_bind h
  refine v_callV o yw_X5_hash ln_4_53 wi_X5_hash ws_X5_hash hX (by decide) 5 rfl n5 (As := [.int (0 : Int32), .int r22]) rfl rfl (Nat.le_of_ble_eq_true rfl) (e_X5_hash n5 he23) dX6_keep_90 ?_
  obtain ⟨r26, he25, h⟩ := z_bind h
  refine v_callS o yw_X5_checkOf ln_4_54 ws_X5_checkOf hX (by decide) (As := [.long r24]) rfl rfl (Nat.le_of_ble_eq_true rfl) (e_X5_checkOf he25) dX6_keep_93 ?_
  refine v_iconst o (4 : Int32) dX6_keep_96 (by decide) ?_
  obtain ⟨D28, he27, h⟩ := z_bind h
  refine v_callV o yw_X5_addNumber ln_4_50 wi_X5_addNumber ws_X5_addNumber hX (by decide) 5 rfl n5 (As := [.long r26, .int (4 : Int32)]) rfl rfl (Nat.le_of_ble_eq_true rfl) (e_X5_addNumber n5 he27) dX6_keep_97 ?_
  refine v_aload_n o dX6_keep_100 rfl 1 rfl ?_
  obtain ⟨n29, h⟩ := z_gK_of h
  refine gt_6_0 o hK0 ln_2_43 (by rw [n29]; decide) dX6_keep_101 ?_
  refine v_aload_n o dX6_keep_104 rfl 0 rfl ?_
  obtain ⟨n30, h⟩ := z_gK_of h
  refine gt_0_2 o n30 ln_2_16 dX6_keep_105 ?_
  obtain ⟨D32, he31, h⟩ := z_bind h
  refine v_callV o yw_X1_erase ln_4_55 wi_X1_erase ws_X1_erase hX (by decide) 1 rfl n29 (As := [.int (z_I D28 2 s0)]) rfl rfl (Nat.le_of_ble_eq_true rfl) (e_X1_erase n29 he31) dX6_keep_108 ?_
  refine v_aload_n o dX6_keep_111 rfl 1 rfl ?_
  refine gt_6_0 o hK0 ln_2_43 (by rw [n29]; decide) dX6_keep_112 ?_
  refine v_aload_n o dX6_keep_115 rfl 0 rfl ?_
  refine gt_0_2 o n30 ln_2_16 dX6_keep_116 ?_
  refine v_iconst o (4 : Int32) dX6_keep_119 (by decide) ?_
  refine v_imul o dX6_keep_120 ?_
  refine v_aload_n o dX6_keep_121 rfl 1 rfl ?_
  refine gt_6_5 o hK0 ln_2_48 (by rw [n5]; decide) dX6_keep_122 ?_
  obtain ⟨D34, he33, h⟩ := z_bind h
  refine v_callV o yw_X1_writeAll ln_4_63 wi_X1_writeAll ws_X1_writeAll hX (by decide) 1 rfl n29 (As := [.int ((z_I D32 2 s0) * (4 : Int32)), .ref (z_w q (z_R G 605 a0))]) rfl rfl (Nat.le_of_ble_eq_true rfl) (e_X1_writeAll n29 he33) dX6_keep_125 ?_
  refine v_aload_n o dX6_keep_128 rfl 0 rfl ?_
  obtain ⟨D36, he35, h⟩ := z_bind h
  refine v_callV o yw_X0_look ln_4_73 wi_X0_look ws_X0_look hX (by decide) 0 rfl n30 (As := []) rfl rfl (Nat.le_of_ble_eq_true rfl) (e_X0_look n30 he35) dX6_keep_129 ?_
  have hr := z_some h
  subst hr
  exact v_return o dX6_keep_132
def j_X6_keep_14 (G : z_G) (D : z_D) (a0 : Nat) (a1 : Nat)  : Option (z_D) :=
  z_gK G 100 (z_R G 601 a0) ((j_X6_keep_25 G D  a0 a1 (z_R G 601 a0)))
set_option maxRecDepth 100000 in
set_option maxHeartbeats 4000000 in
theorem tj_X6_keep_14 {q : z_Q} {X : z_X} {G : z_G} {D : z_D} {a0 : Nat} {a1 : Nat}   {D1 : z_D} (o : z_O q X cX6_keep 3 "FlashTrust$Shelf" "keep" none) (hX : x_R X = z_rm 4 0 0) (hK0 : z_K G a0 = 106) (h : j_X6_keep_14 G D a0 a1  = some D1) : z_V q X 3 (z_F q X none G D1 0 0) 0 0 G D 14 [(0, .ref (z_w q a0)), (1, .ref (z_w q a1))] [] := by
  unfold j_X6_keep_14 at h
  refine v_aload_n o dX6_keep_14 rfl 0 rfl ?_
  obtain ⟨n4, h⟩ := z_gK_of h
  refine gt_6_1 o hK0 ln_2_44 (by rw [n4]; decide) dX6_keep_15 ?_
  refine v_goto o 25 dX6_keep_18 (by decide) ?_
  exact tj_X6_keep_25 o hX hK0 h
def f_X6_keep (G : z_G) (D : z_D) (a0 : Nat) (a1 : Nat) : Option (z_D) :=
  (f_X6_number G D a0).bind (fun r2 => ((if r2 = (0 : Int32) then (j_X6_keep_14 G D  a0 a1) else ((f_X6_secondCounts G D a0).bind (fun r38 => ((if r38 = (0 : Int32) then (z_gK G 100 (z_R G 602 a0) ((j_X6_keep_25 G D  a0 a1 (z_R G 602 a0)))) else (j_X6_keep_14 G D  a0 a1))))))))
set_option maxRecDepth 100000 in
set_option maxHeartbeats 4000000 in
theorem b_X6_keep {q : z_Q} {X : z_X} {G : z_G} {D : z_D} {a0 : Nat} {a1 : Nat}  {D1 : z_D} (o : z_O q X cX6_keep 3 "FlashTrust$Shelf" "keep" none) (hX : x_R X = z_rm 4 0 0) (hK0 : z_K G a0 = 106) (h : f_X6_keep G D a0 a1 = some D1) : z_V q X 3 (z_F q X none G D1 0 0) 0 0 G D 0 [(0, .ref (z_w q a0)), (1, .ref (z_w q a1))] [] := by
  unfold f_X6_keep at h
  refine v_aload_n o dX6_keep_0 rfl 0 rfl ?_
  obtain ⟨r2, he1, h⟩ := z_bind h
  refine v_callV o yw_X6_number ln_3_216 wi_X6_number ws_X6_number hX (by decide) 6 rfl hK0 (As := []) rfl rfl (Nat.le_of_ble_eq_true rfl) (e_X6_number hK0 he1) dX6_keep_1 ?_
  refine v_if_eq o 14 dX6_keep_4 (by decide) (fun c3 => ?_) (fun c3 => ?_)
  · replace h := z_ip c3 h
    exact tj_X6_keep_14 o hX hK0 h
  · replace h := z_in c3 h
    refine v_aload_n o dX6_keep_7 rfl 0 rfl ?_
    obtain ⟨r38, he37, h⟩ := z_bind h
    refine v_callV o yw_X6_secondCounts ln_3_225 wi_X6_secondCounts ws_X6_secondCounts hX (by decide) 6 rfl hK0 (As := []) rfl rfl (Nat.le_of_ble_eq_true rfl) (e_X6_secondCounts hK0 he37) dX6_keep_8 ?_
    refine v_if_eq o 21 dX6_keep_11 (by decide) (fun c39 => ?_) (fun c39 => ?_)
    · replace h := z_ip c39 h
      refine v_aload_n o dX6_keep_21 rfl 0 rfl ?_
      obtain ⟨n40, h⟩ := z_gK_of h
      refine gt_6_2 o hK0 ln_2_45 (by rw [n40]; decide) dX6_keep_22 ?_
      exact tj_X6_keep_25 o hX hK0 h
    · replace h := z_in c39 h
      exact tj_X6_keep_14 o hX hK0 h
theorem e_X6_keep {q : z_Q} {l : Launch} {G : z_G} {D : z_D} {a0 : Nat} {a1 : Nat}  {D1 : z_D} (hK0 : z_K G a0 = 106) (h : f_X6_keep G D a0 a1 = some D1) : z_E q l yX6_keep cX6_keep 3 none 4 0 0 [.ref (z_w q a0), .ref (z_w q a1)] G D none G D1 :=
  z_E.of (by decide) (Nat.le_of_ble_eq_true rfl) (fun X hX _ o => b_X6_keep o hX hK0 h)
def f_X8_stage (G : z_G) (D : z_D) (a0 : Nat) (a1 : Int32) (a2 : Int32) (a3 : Int32) (a4 : Int64) : Option (z_D) :=
  (some (z_sJ (z_sI (z_sI (z_sI D 810 a0 a1) 811 a0 a2) 812 a0 a3) 813 a0 a4))
set_option maxRecDepth 100000 in
set_option maxHeartbeats 4000000 in
theorem b_X8_stage {q : z_Q} {X : z_X} {G : z_G} {D : z_D} {a0 : Nat} {a1 : Int32} {a2 : Int32} {a3 : Int32} {a4 : Int64}  {D1 : z_D} (o : z_O q X cX8_stage 6 "FlashTrust$States" "stage" none) (hX : x_R X = z_rm 0 0 0) (hK0 : z_K G a0 = 108) (h : f_X8_stage G D a0 a1 a2 a3 a4 = some D1) : z_V q X 6 (z_F q X none G D1 0 0) 0 0 G D 0 [(0, .ref (z_w q a0)), (1, .int a1), (2, .int a2), (3, .int a3), (4, .long a4)] [] := by
  unfold f_X8_stage at h
  refine v_aload_n o dX8_stage_0 rfl 0 rfl ?_
  refine v_iload_n o dX8_stage_1 rfl 1 rfl ?_
  refine pt_8_10 o hK0 ln_2_99 dX8_stage_2 ?_
  refine v_aload_n o dX8_stage_5 rfl 0 rfl ?_
  refine v_iload_n o dX8_stage_6 rfl 2 rfl ?_
  refine pt_8_11 o hK0 ln_2_102 dX8_stage_7 ?_
  refine v_aload_n o dX8_stage_10 rfl 0 rfl ?_
  refine v_iload_n o dX8_stage_11 rfl 3 rfl ?_
  refine pt_8_12 o hK0 ln_2_105 dX8_stage_12 ?_
  refine v_aload_n o dX8_stage_15 rfl 0 rfl ?_
  refine v_lload o dX8_stage_16 4 rfl ?_
  refine pt_8_13 o hK0 ln_2_108 dX8_stage_18 ?_
  have hr := z_some h
  subst hr
  exact v_return o dX8_stage_21
theorem e_X8_stage {q : z_Q} {l : Launch} {G : z_G} {D : z_D} {a0 : Nat} {a1 : Int32} {a2 : Int32} {a3 : Int32} {a4 : Int64}  {D1 : z_D} (hK0 : z_K G a0 = 108) (h : f_X8_stage G D a0 a1 a2 a3 a4 = some D1) : z_E q l yX8_stage cX8_stage 6 none 0 0 0 [.ref (z_w q a0), .int a1, .int a2, .int a3, .long a4] G D none G D1 :=
  z_E.of (by decide) (Nat.le_of_ble_eq_true rfl) (fun X hX _ o => b_X8_stage o hX hK0 h)
def f_X8_becomeFactory (G : z_G) (D : z_D) (a0 : Nat) : Option (z_D) :=
  (f_X8_stage G (z_sJ (z_sI (z_sI (z_sI (z_sI (z_sI D 804 a0 (-1 : Int32)) 805 a0 (0 : Int32)) 806 a0 (0 : Int32)) 807 a0 (1 : Int32)) 808 a0 (z_I (z_sI (z_sI (z_sI (z_sI D 804 a0 (-1 : Int32)) 805 a0 (0 : Int32)) 806 a0 (0 : Int32)) 807 a0 (1 : Int32)) 801 a0)) 809 a0 (z_J (z_sI (z_sI (z_sI (z_sI (z_sI D 804 a0 (-1 : Int32)) 805 a0 (0 : Int32)) 806 a0 (0 : Int32)) 807 a0 (1 : Int32)) 808 a0 (z_I (z_sI (z_sI (z_sI (z_sI D 804 a0 (-1 : Int32)) 805 a0 (0 : Int32)) 806 a0 (0 : Int32)) 807 a0 (1 : Int32)) 801 a0)) 802 a0)) a0 (0 : Int32) (0 : Int32) (0 : Int32) (0 : Int64)).bind (fun D2 => ((some D2)))
set_option maxRecDepth 100000 in
set_option maxHeartbeats 4000000 in
theorem b_X8_becomeFactory {q : z_Q} {X : z_X} {G : z_G} {D : z_D} {a0 : Nat}  {D1 : z_D} (o : z_O q X cX8_becomeFactory 1 "FlashTrust$States" "becomeFactory" none) (hX : x_R X = z_rm 1 0 0) (hK0 : z_K G a0 = 108) (h : f_X8_becomeFactory G D a0 = some D1) : z_V q X 1 (z_F q X none G D1 0 0) 0 0 G D 0 [(0, .ref (z_w q a0))] [] := by
  unfold f_X8_becomeFactory at h
  refine v_aload_n o dX8_becomeFactory_0 rfl 0 rfl ?_
  refine v_iconst o (-1 : Int32) dX8_becomeFactory_1 (by decide) ?_
  refine pt_8_4 o hK0 ln_2_88 dX8_becomeFactory_2 ?_
  refine v_aload_n o dX8_becomeFactory_5 rfl 0 rfl ?_
  refine v_iconst o (0 : Int32) dX8_becomeFactory_6 (by decide) ?_
  refine pt_8_5 o hK0 ln_2_89 dX8_becomeFactory_7 ?_
  refine v_aload_n o dX8_becomeFactory_10 rfl 0 rfl ?_
  refine v_iconst o (0 : Int32) dX8_becomeFactory_11 (by decide) ?_
  refine pt_8_6 o hK0 ln_2_90 dX8_becomeFactory_12 ?_
  refine v_aload_n o dX8_becomeFactory_15 rfl 0 rfl ?_
  refine v_iconst o (1 : Int32) dX8_becomeFactory_16 (by decide) ?_
  refine pt_8_7 o hK0 ln_2_92 dX8_becomeFactory_17 ?_
  refine v_aload_n o dX8_becomeFactory_20 rfl 0 rfl ?_
  refine v_aload_n o dX8_becomeFactory_21 rfl 0 rfl ?_
  refine gt_8_1 o hK0 ln_2_85 dX8_becomeFactory_22 ?_
  refine pt_8_8 o hK0 ln_2_95 dX8_becomeFactory_25 ?_
  refine v_aload_n o dX8_becomeFactory_28 rfl 0 rfl ?_
  refine v_aload_n o dX8_becomeFactory_29 rfl 0 rfl ?_
  refine gt_8_2 o hK0 ln_2_86 dX8_becomeFactory_30 ?_
  refine pt_8_9 o hK0 ln_2_97 dX8_becomeFactory_33 ?_
  refine v_aload_n o dX8_becomeFactory_36 rfl 0 rfl ?_
  refine v_iconst o (0 : Int32) dX8_becomeFactory_37 (by decide) ?_
  refine v_iconst o (0 : Int32) dX8_becomeFactory_38 (by decide) ?_
  refine v_iconst o (0 : Int32) dX8_becomeFactory_39 (by decide) ?_
  refine v_lconst o (0 : Int64) dX8_becomeFactory_40 (by decide) ?_
  obtain ⟨D2, he1, h⟩ := z_bind h
  refine v_callV o yw_X8_stage ln_2_148 wi_X8_stage ws_X8_stage hX (by decide) 8 rfl hK0 (As := [.int (0 : Int32), .int (0 : Int32), .int (0 : Int32), .long (0 : Int64)]) rfl rfl (Nat.le_of_ble_eq_true rfl) (e_X8_stage hK0 he1) dX8_becomeFactory_41 ?_
  have hr := z_some h
  subst hr
  exact v_return o dX8_becomeFactory_44
theorem e_X8_becomeFactory {q : z_Q} {l : Launch} {G : z_G} {D : z_D} {a0 : Nat}  {D1 : z_D} (hK0 : z_K G a0 = 108) (h : f_X8_becomeFactory G D a0 = some D1) : z_E q l yX8_becomeFactory cX8_becomeFactory 1 none 1 0 0 [.ref (z_w q a0)] G D none G D1 :=
  z_E.of (by decide) (Nat.le_of_ble_eq_true rfl) (fun X hX _ o => b_X8_becomeFactory o hX hK0 h)
def f_X8_compose (G : z_G) (D : z_D) (a0 : Nat) (a1 : Int32) : Option (z_D) :=
  z_gK G 105 (z_R G 803 a0) ((f_X5_empty G D (z_R G 803 a0)).bind (fun D3 => ((f_X5_addNumber G D3 (z_R G 803 a0) ((a1).toInt64) (4 : Int32)).bind (fun D5 => ((f_X5_addNumber G D5 (z_R G 803 a0) (((z_I D5 806 a0)).toInt64) (1 : Int32)).bind (fun D7 => ((f_X5_addNumber G D7 (z_R G 803 a0) (((z_I D7 807 a0)).toInt64) (2 : Int32)).bind (fun D9 => ((f_X5_addNumber G D9 (z_R G 803 a0) (((z_I D9 808 a0)).toInt64) (2 : Int32)).bind (fun D11 => ((f_X5_addNumber G D11 (z_R G 803 a0) (z_J D11 809 a0) (6 : Int32)).bind (fun D13 => ((f_X5_addNumber G D13 (z_R G 803 a0) (((z_I D13 810 a0)).toInt64) (1 : Int32)).bind (fun D15 => ((f_X5_addNumber G D15 (z_R G 803 a0) (((z_I D15 811 a0)).toInt64) (2 : Int32)).bind (fun D17 => ((f_X5_addNumber G D17 (z_R G 803 a0) (((z_I D17 812 a0)).toInt64) (2 : Int32)).bind (fun D19 => ((f_X5_addNumber G D19 (z_R G 803 a0) (z_J D19 813 a0) (6 : Int32)).bind (fun D21 => ((f_X5_addNumber G D21 (z_R G 803 a0) (0 : Int64) (2 : Int32)).bind (fun D23 => ((f_X5_hash G D23 (z_R G 803 a0) (0 : Int32) (28 : Int32)).bind (fun r25 => ((f_X5_checkOf G D23 r25).bind (fun r27 => ((f_X5_addNumber G D23 (z_R G 803 a0) r27 (4 : Int32)).bind (fun D29 => ((some D29))))))))))))))))))))))))))))))
set_option maxRecDepth 100000 in
set_option maxHeartbeats 4000000 in
theorem b_X8_compose {q : z_Q} {X : z_X} {G : z_G} {D : z_D} {a0 : Nat} {a1 : Int32}  {D1 : z_D} (o : z_O q X cX8_compose 2 "FlashTrust$States" "compose" none) (hX : x_R X = z_rm 2 0 0) (hK0 : z_K G a0 = 108) (h : f_X8_compose G D a0 a1 = some D1) : z_V q X 2 (z_F q X none G D1 0 0) 0 0 G D 0 [(0, .ref (z_w q a0)), (1, .int a1)] [] := by
  unfold f_X8_compose at h
  refine v_aload_n o dX8_compose_0 rfl 0 rfl ?_
  obtain ⟨n1, h⟩ := z_gK_of h
  refine gt_8_3 o hK0 ln_2_87 (by rw [n1]; decide) dX8_compose_1 ?_
  obtain ⟨D3, he2, h⟩ := z_bind h
  refine v_callV o yw_X5_empty ln_2_156 wi_X5_empty ws_X5_empty hX (by decide) 5 rfl n1 (As := []) rfl rfl (Nat.le_of_ble_eq_true rfl) (e_X5_empty n1 he2) dX8_compose_4 ?_
  refine v_aload_n o dX8_compose_7 rfl 0 rfl ?_
  refine gt_8_3 o hK0 ln_2_87 (by rw [n1]; decide) dX8_compose_8 ?_
  refine v_iload_n o dX8_compose_11 rfl 1 rfl ?_
  refine v_i2l o dX8_compose_12 ?_
  refine v_iconst o (4 : Int32) dX8_compose_13 (by decide) ?_
  obtain ⟨D5, he4, h⟩ := z_bind h
  refine v_callV o yw_X5_addNumber ln_2_160 wi_X5_addNumber ws_X5_addNumber hX (by decide) 5 rfl n1 (As := [.long (a1).toInt64, .int (4 : Int32)]) rfl rfl (Nat.le_of_ble_eq_true rfl) (e_X5_addNumber n1 he4) dX8_compose_14 ?_
  refine v_aload_n o dX8_compose_17 rfl 0 rfl ?_
  refine gt_8_3 o hK0 ln_2_87 (by rw [n1]; decide) dX8_compose_18 ?_
  refine v_aload_n o dX8_compose_21 rfl 0 rfl ?_
  refine gt_8_6 o hK0 ln_2_90 dX8_compose_22 ?_
  refine v_i2l o dX8_compose_25 ?_
  refine v_iconst o (1 : Int32) dX8_compose_26 (by decide) ?_
  obtain ⟨D7, he6, h⟩ := z_bind h
  refine v_callV o yw_X5_addNumber ln_2_160 wi_X5_addNumber ws_X5_addNumber hX (by decide) 5 rfl n1 (As := [.long ((z_I D5 806 a0)).toInt64, .int (1 : Int32)]) rfl rfl (Nat.le_of_ble_eq_true rfl) (e_X5_addNumber n1 he6) dX8_compose_27 ?_
  refine v_aload_n o dX8_compose_30 rfl 0 rfl ?_
  refine gt_8_3 o hK0 ln_2_87 (by rw [n1]; decide) dX8_compose_31 ?_
  refine v_aload_n o dX8_compose_34 rfl 0 rfl ?_
  refine gt_8_7 o hK0 ln_2_92 dX8_compose_35 ?_
  refine v_i2l o dX8_compose_38 ?_
  refine v_iconst o (2 : Int32) dX8_compose_39 (by decide) ?_
  obtain ⟨D9, he8, h⟩ := z_bind h
  refine v_callV o yw_X5_addNumber ln_2_160 wi_X5_addNumber ws_X5_addNumber hX (by decide) 5 rfl n1 (As := [.long ((z_I D7 807 a0)).toInt64, .int (2 : Int32)]) rfl rfl (Nat.le_of_ble_eq_true rfl) (e_X5_addNumber n1 he8) dX8_compose_40 ?_
  refine v_aload_n o dX8_compose_43 rfl 0 rfl ?_
  refine gt_8_3 o hK0 ln_2_87 (by rw [n1]; decide) dX8_compose_44 ?_
  refine v_aload_n o dX8_compose_47 rfl 0 rfl ?_
  refine gt_8_8 o hK0 ln_2_95 dX8_compose_48 ?_
  refine v_i2l o dX8_compose_51 ?_
  refine v_iconst o (2 : Int32) dX8_compose_52 (by decide) ?_
  obtain ⟨D11, he10, h⟩ := z_bind h
  refine v_callV o yw_X5_addNumber ln_2_160 wi_X5_addNumber ws_X5_addNumber hX (by decide) 5 rfl n1 (As := [.long ((z_I D9 808 a0)).toInt64, .int (2 : Int32)]) rfl rfl (Nat.le_of_ble_eq_true rfl) (e_X5_addNumber n1 he10) dX8_compose_53 ?_
  refine v_aload_n o dX8_compose_56 rfl 0 rfl ?_
  refine gt_8_3 o hK0 ln_2_87 (by rw [n1]; decide) dX8_compose_57 ?_
  refine v_aload_n o dX8_compose_60 rfl 0 rfl ?_
  refine gt_8_9 o hK0 ln_2_97 dX8_compose_61 ?_
  refine v_bipush o (6 : Int32) dX8_compose_64 (by decide) ?_
  obtain ⟨D13, he12, h⟩ := z_bind h
  refine v_callV o yw_X5_addNumber ln_2_160 wi_X5_addNumber ws_X5_addNumber hX (by decide) 5 rfl n1 (As := [.long (z_J D11 809 a0), .int (6 : Int32)]) rfl rfl (Nat.le_of_ble_eq_true rfl) (e_X5_addNumber n1 he12) dX8_compose_66 ?_
  refine v_aload_n o dX8_compose_69 rfl 0 rfl ?_
  refine gt_8_3 o hK0 ln_2_87 (by rw [n1]; decide) dX8_compose_70 ?_
  refine v_aload_n o dX8_compose_73 rfl 0 rfl ?_
  refine gt_8_10 o hK0 ln_2_99 dX8_compose_74 ?_
  refine v_i2l o dX8_compose_77 ?_
  refine v_iconst o (1 : Int32) dX8_compose_78 (by decide) ?_
  obtain ⟨D15, he14, h⟩ := z_bind h
  refine v_callV o yw_X5_addNumber ln_2_160 wi_X5_addNumber ws_X5_addNumber hX (by decide) 5 rfl n1 (As := [.long ((z_I D13 810 a0)).toInt64, .int (1 : Int32)]) rfl rfl (Nat.le_of_ble_eq_true rfl) (e_X5_addNumber n1 he14) dX8_compose_79 ?_
  refine v_aload_n o dX8_compose_82 rfl 0 rfl ?_
  refine gt_8_3 o hK0 ln_2_87 (by rw [n1]; decide) dX8_compose_83 ?_
  refine v_aload_n o dX8_compose_86 rfl 0 rfl ?_
  refine gt_8_11 o hK0 ln_2_102 dX8_compose_87 ?_
  refine v_i2l o dX8_compose_90 ?_
  refine v_iconst o (2 : Int32) dX8_compose_91 (by decide) ?_
  obtain ⟨D17, he16, h⟩ := z_bind h
  refine v_callV o yw_X5_addNumber ln_2_160 wi_X5_addNumber ws_X5_addNumber hX (by decide) 5 rfl n1 (As := [.long ((z_I D15 811 a0)).toInt64, .int (2 : Int32)]) rfl rfl (Nat.le_of_ble_eq_true rfl) (e_X5_addNumber n1 he16) dX8_compose_92 ?_
  refine v_aload_n o dX8_compose_95 rfl 0 rfl ?_
  refine gt_8_3 o hK0 ln_2_87 (by rw [n1]; decide) dX8_compose_96 ?_
  refine v_aload_n o dX8_compose_99 rfl 0 rfl ?_
  refine gt_8_12 o hK0 ln_2_105 dX8_compose_100 ?_
  refine v_i2l o dX8_compose_103 ?_
  refine v_iconst o (2 : Int32) dX8_compose_104 (by decide) ?_
  obtain ⟨D19, he18, h⟩ := z_bind h
  refine v_callV o yw_X5_addNumber ln_2_160 wi_X5_addNumber ws_X5_addNumber hX (by decide) 5 rfl n1 (As := [.long ((z_I D17 812 a0)).toInt64, .int (2 : Int32)]) rfl rfl (Nat.le_of_ble_eq_true rfl) (e_X5_addNumber n1 he18) dX8_compose_105 ?_
  refine v_aload_n o dX8_compose_108 rfl 0 rfl ?_
  refine gt_8_3 o hK0 ln_2_87 (by rw [n1]; decide) dX8_compose_109 ?_
  refine v_aload_n o dX8_compose_112 rfl 0 rfl ?_
  refine gt_8_13 o hK0 ln_2_108 dX8_compose_113 ?_
  refine v_bipush o (6 : Int32) dX8_compose_116 (by decide) ?_
  obtain ⟨D21, he20, h⟩ := z_bind h
  refine v_callV o yw_X5_addNumber ln_2_160 wi_X5_addNumber ws_X5_addNumber hX (by decide) 5 rfl n1 (As := [.long (z_J D19 813 a0), .int (6 : Int32)]) rfl rfl (Nat.le_of_ble_eq_true rfl) (e_X5_addNumber n1 he20) dX8_compose_118 ?_
  refine v_aload_n o dX8_compose_121 rfl 0 rfl ?_
  refine gt_8_3 o hK0 ln_2_87 (by rw [n1]; decide) dX8_compose_122 ?_
  refine v_lconst o (0 : Int64) dX8_compose_125 (by decide) ?_
  refine v_iconst o (2 : Int32) dX8_compose_126 (by decide) ?_
  obtain ⟨D23, he22, h⟩ := z_bind h
  refine v_callV o yw_X5_addNumber ln_2_160 wi_X5_addNumber ws_X5_addNumber hX (by decide) 5 rfl n1 (As := [.long (0 : Int64), .int (2 : Int32)]) rfl rfl (Nat.le_of_ble_eq_true rfl) (e_X5_addNumber n1 he22) dX8_compose_127 ?_
  refine v_aload_n o dX8_compose_130 rfl 0 rfl ?_
  refine gt_8_3 o hK0 ln_2_87 (by rw [n1]; decide) dX8_compose_131 ?_
  refine v_aload_n o dX8_compose_134 rfl 0 rfl ?_
  refine gt_8_3 o hK0 ln_2_87 (by rw [n1]; decide) dX8_compose_135 ?_
  refine v_iconst o (0 : Int32) dX8_compose_138 (by decide) ?_
  refine v_bipush o (28 : Int32) dX8_compose_139 (by decide) ?_
  obtain ⟨r25, he24, h⟩ := z_bind h
  refine v_callV o yw_X5_hash ln_2_165 wi_X5_hash ws_X5_hash hX (by decide) 5 rfl n1 (As := [.int (0 : Int32), .int (28 : Int32)]) rfl rfl (Nat.le_of_ble_eq_true rfl) (e_X5_hash n1 he24) dX8_compose_141 ?_
  obtain ⟨r27, he26, h⟩ := z_bind h
  refine v_callS o yw_X5_checkOf ln_2_166 ws_X5_checkOf hX (by decide) (As := [.long r25]) rfl rfl (Nat.le_of_ble_eq_true rfl) (e_X5_checkOf he26) dX8_compose_144 ?_
  refine v_iconst o (4 : Int32) dX8_compose_147 (by decide) ?_
  obtain ⟨D29, he28, h⟩ := z_bind h
  refine v_callV o yw_X5_addNumber ln_2_160 wi_X5_addNumber ws_X5_addNumber hX (by decide) 5 rfl n1 (As := [.long r27, .int (4 : Int32)]) rfl rfl (Nat.le_of_ble_eq_true rfl) (e_X5_addNumber n1 he28) dX8_compose_148 ?_
  have hr := z_some h
  subst hr
  exact v_return o dX8_compose_151
theorem e_X8_compose {q : z_Q} {l : Launch} {G : z_G} {D : z_D} {a0 : Nat} {a1 : Int32}  {D1 : z_D} (hK0 : z_K G a0 = 108) (h : f_X8_compose G D a0 a1 = some D1) : z_E q l yX8_compose cX8_compose 2 none 2 0 0 [.ref (z_w q a0), .int a1] G D none G D1 :=
  z_E.of (by decide) (Nat.le_of_ble_eq_true rfl) (fun X hX _ o => b_X8_compose o hX hK0 h)
def f_X8_isProgramLength (G : z_G) (D : z_D) (a0 : Int64) : Option (Int32) :=
  (if (lg_cmp a0 (1 : Int64)) < (0 : Int32) then ((some (0 : Int32))) else ((if (0 : Int32) < (lg_cmp a0 (1024 : Int64)) then ((some (0 : Int32))) else (((some (1 : Int32)))))))
set_option maxRecDepth 100000 in
set_option maxHeartbeats 4000000 in
theorem b_X8_isProgramLength {q : z_Q} {X : z_X} {G : z_G} {D : z_D} {a0 : Int64} {r : Int32} (o : z_O q X cX8_isProgramLength 2 "FlashTrust$States" "isProgramLength" (some .boolean)) (hX : x_R X = z_rm 0 0 0)  (h : f_X8_isProgramLength G D a0 = some r) : z_V q X 2 (z_F q X (some (.int r)) G D 0 0) 0 0 G D 0 [(0, .long a0)] [] := by
  unfold f_X8_isProgramLength at h
  refine v_lload_n o dX8_isProgramLength_0 rfl 0 rfl ?_
  refine v_lconst o (1 : Int64) dX8_isProgramLength_1 (by decide) ?_
  refine v_lcmp o dX8_isProgramLength_2 ?_
  refine v_if_lt o 18 dX8_isProgramLength_3 (by decide) (fun c1 => ?_) (fun c1 => ?_)
  · replace h := z_ip c1 h
    refine v_iconst o (0 : Int32) dX8_isProgramLength_18 (by decide) ?_
    have hr := z_some h
    subst hr
    exact v_zreturn o (by decide) dX8_isProgramLength_19
  · replace h := z_in c1 h
    refine v_lload_n o dX8_isProgramLength_6 rfl 0 rfl ?_
    refine v_ldc2 o ln_2_196 dX8_isProgramLength_7 ?_
    refine v_lcmp o dX8_isProgramLength_10 ?_
    refine v_if_gt o 18 dX8_isProgramLength_11 (by decide) (fun c2 => ?_) (fun c2 => ?_)
    · replace h := z_ip c2 h
      refine v_iconst o (0 : Int32) dX8_isProgramLength_18 (by decide) ?_
      have hr := z_some h
      subst hr
      exact v_zreturn o (by decide) dX8_isProgramLength_19
    · replace h := z_in c2 h
      refine v_iconst o (1 : Int32) dX8_isProgramLength_14 (by decide) ?_
      refine v_goto o 19 dX8_isProgramLength_15 (by decide) ?_
      have hr := z_some h
      subst hr
      exact v_zreturn o (by decide) dX8_isProgramLength_19
theorem e_X8_isProgramLength {q : z_Q} {l : Launch} {G : z_G} {D : z_D} {a0 : Int64} {r : Int32} (h : f_X8_isProgramLength G D a0 = some r) : z_E q l yX8_isProgramLength cX8_isProgramLength 2 (some .boolean) 0 0 0 [.long a0] G D (some (.int r)) G D :=
  z_E.of (by decide) (Nat.le_of_ble_eq_true rfl) (fun X hX _ o => b_X8_isProgramLength o hX h)
def j_X8_fits_108 (G : z_G) (D : z_D) (a1 : Int32) (a2 : Nat) (s0 : Int32) : Option (Int32) :=
  (if s0 = (0 : Int32) then ((some (0 : Int32))) else (z_gK G 105 a2 ((f_X5_at G D a2 (a1 + (4 : Int32))).bind (fun r21 => ((if (1 : Int32) < r21 then ((some (0 : Int32))) else ((f_X5_number G D a2 (a1 + (5 : Int32)) (2 : Int32)).bind (fun r24 => ((if (lg_cmp r24 (0 : Int64)) ≤ (0 : Int32) then ((some (0 : Int32))) else ((f_X5_number G D a2 (a1 + (7 : Int32)) (2 : Int32)).bind (fun r27 => ((f_X8_isProgramLength G D r27).bind (fun r29 => ((if r29 = (0 : Int32) then ((some (0 : Int32))) else (((some (1 : Int32))))))))))))))))))))
set_option maxRecDepth 100000 in
set_option maxHeartbeats 4000000 in
theorem tj_X8_fits_108 {q : z_Q} {X : z_X} {G : z_G} {D : z_D} {a1 : Int32} {a2 : Nat} {s0 : Int32} {r : Int32} (o : z_O q X cX8_fits 9 "FlashTrust$States" "fits" (some .boolean)) (hX : x_R X = z_rm 1 0 0)  (h : j_X8_fits_108 G D a1 a2 s0 = some r) : z_V q X 9 (z_F q X (some (.int r)) G D 0 0) 0 0 G D 108 [(1, .int a1), (2, .ref (z_w q a2))] [.int s0] := by
  unfold j_X8_fits_108 at h
  refine v_istore o [(8, .int s0), (1, .int a1), (2, .ref (z_w q a2))] dX8_fits_108 (by decide) rfl ?_
  refine v_iload o dX8_fits_110 0 rfl ?_
  refine v_if_eq o 158 dX8_fits_112 (by decide) (fun c18 => ?_) (fun c18 => ?_)
  · replace h := z_ip c18 h
    refine v_iconst o (0 : Int32) dX8_fits_158 (by decide) ?_
    have hr := z_some h
    subst hr
    exact v_zreturn o (by decide) dX8_fits_159
  · replace h := z_in c18 h
    refine v_aload_n o dX8_fits_115 rfl 2 rfl ?_
    refine v_iload_n o dX8_fits_116 rfl 1 rfl ?_
    refine v_iconst o (4 : Int32) dX8_fits_117 (by decide) ?_
    refine v_iadd o dX8_fits_118 ?_
    obtain ⟨n19, h⟩ := z_gK_of h
    obtain ⟨r21, he20, h⟩ := z_bind h
    refine v_callV o yw_X5_at ln_2_192 wi_X5_at ws_X5_at hX (by decide) 5 rfl n19 (As := [.int (a1 + (4 : Int32))]) rfl rfl (Nat.le_of_ble_eq_true rfl) (e_X5_at n19 he20) dX8_fits_119 ?_
    refine v_iconst o (1 : Int32) dX8_fits_122 (by decide) ?_
    refine v_icmp_gt o 158 dX8_fits_123 (by decide) (fun c22 => ?_) (fun c22 => ?_)
    · replace h := z_ip c22 h
      refine v_iconst o (0 : Int32) dX8_fits_158 (by decide) ?_
      have hr := z_some h
      subst hr
      exact v_zreturn o (by decide) dX8_fits_159
    · replace h := z_in c22 h
      refine v_aload_n o dX8_fits_126 rfl 2 rfl ?_
      refine v_iload_n o dX8_fits_127 rfl 1 rfl ?_
      refine v_iconst o (5 : Int32) dX8_fits_128 (by decide) ?_
      refine v_iadd o dX8_fits_129 ?_
      refine v_iconst o (2 : Int32) dX8_fits_130 (by decide) ?_
      obtain ⟨r24, he23, h⟩ := z_bind h
      refine v_callV o yw_X5_number ln_2_182 wi_X5_number ws_X5_number hX (by decide) 5 rfl n19 (As := [.int (a1 + (5 : Int32)), .int (2 : Int32)]) rfl rfl (Nat.le_of_ble_eq_true rfl) (e_X5_number n19 he23) dX8_fits_131 ?_
      refine v_lconst o (0 : Int64) dX8_fits_134 (by decide) ?_
      refine v_lcmp o dX8_fits_135 ?_
      refine v_if_le o 158 dX8_fits_136 (by decide) (fun c25 => ?_) (fun c25 => ?_)
      · replace h := z_ip c25 h
        refine v_iconst o (0 : Int32) dX8_fits_158 (by decide) ?_
        have hr := z_some h
        subst hr
        exact v_zreturn o (by decide) dX8_fits_159
      · replace h := z_in c25 h
        refine v_aload_n o dX8_fits_139 rfl 2 rfl ?_
        refine v_iload_n o dX8_fits_140 rfl 1 rfl ?_
        refine v_bipush o (7 : Int32) dX8_fits_141 (by decide) ?_
        refine v_iadd o dX8_fits_143 ?_
        refine v_iconst o (2 : Int32) dX8_fits_144 (by decide) ?_
        obtain ⟨r27, he26, h⟩ := z_bind h
        refine v_callV o yw_X5_number ln_2_182 wi_X5_number ws_X5_number hX (by decide) 5 rfl n19 (As := [.int (a1 + (7 : Int32)), .int (2 : Int32)]) rfl rfl (Nat.le_of_ble_eq_true rfl) (e_X5_number n19 he26) dX8_fits_145 ?_
        obtain ⟨r29, he28, h⟩ := z_bind h
        refine v_callS o yw_X8_isProgramLength ln_2_193 ws_X8_isProgramLength hX (by decide) (As := [.long r27]) rfl rfl (Nat.le_of_ble_eq_true rfl) (e_X8_isProgramLength he28) dX8_fits_148 ?_
        refine v_if_eq o 158 dX8_fits_151 (by decide) (fun c30 => ?_) (fun c30 => ?_)
        · replace h := z_ip c30 h
          refine v_iconst o (0 : Int32) dX8_fits_158 (by decide) ?_
          have hr := z_some h
          subst hr
          exact v_zreturn o (by decide) dX8_fits_159
        · replace h := z_in c30 h
          refine v_iconst o (1 : Int32) dX8_fits_154 (by decide) ?_
          refine v_goto o 159 dX8_fits_155 (by decide) ?_
          have hr := z_some h
          subst hr
          exact v_zreturn o (by decide) dX8_fits_159
def j_X8_fits_107 (G : z_G) (D : z_D) (a1 : Int32) (a2 : Nat)  : Option (Int32) :=
  (j_X8_fits_108 G D  a1 a2 (0 : Int32))
set_option maxRecDepth 100000 in
set_option maxHeartbeats 4000000 in
theorem tj_X8_fits_107 {q : z_Q} {X : z_X} {G : z_G} {D : z_D} {a1 : Int32} {a2 : Nat}  {r : Int32} (o : z_O q X cX8_fits 9 "FlashTrust$States" "fits" (some .boolean)) (hX : x_R X = z_rm 1 0 0)  (h : j_X8_fits_107 G D a1 a2  = some r) : z_V q X 9 (z_F q X (some (.int r)) G D 0 0) 0 0 G D 107 [(1, .int a1), (2, .ref (z_w q a2))] [] := by
  unfold j_X8_fits_107 at h
  refine v_iconst o (0 : Int32) dX8_fits_107 (by decide) ?_
  exact tj_X8_fits_108 o hX h
def f_X8_fits (G : z_G) (D : z_D) (a0 : Nat) (a1 : Int32) : Option (Int32) :=
  z_gK G 101 (z_R G 800 a0) (z_gK G 105 (z_R G 100 (z_R G 800 a0)) ((f_X5_hash G D (z_R G 100 (z_R G 800 a0)) a1 (28 : Int32)).bind (fun r4 => ((f_X5_checkOf G D r4).bind (fun r6 => ((f_X5_number G D (z_R G 100 (z_R G 800 a0)) (a1 + (28 : Int32)) (4 : Int32)).bind (fun r8 => ((if (lg_cmp r6 r8) = (0 : Int32) then ((f_X5_at G D (z_R G 100 (z_R G 800 a0)) (a1 + (15 : Int32))).bind (fun r11 => ((f_X5_number G D (z_R G 100 (z_R G 800 a0)) (a1 + (16 : Int32)) (2 : Int32)).bind (fun r13 => ((f_X5_number G D (z_R G 100 (z_R G 800 a0)) (a1 + (18 : Int32)) (2 : Int32)).bind (fun r15 => ((if r11 = (0 : Int32) then ((if (lg_cmp r15 (0 : Int64)) = (0 : Int32) then ((j_X8_fits_108 G D  a1 (z_R G 100 (z_R G 800 a0)) (1 : Int32))) else ((j_X8_fits_108 G D  a1 (z_R G 100 (z_R G 800 a0)) (0 : Int32))))) else ((if (3 : Int32) < r11 then (j_X8_fits_107 G D  a1 (z_R G 100 (z_R G 800 a0))) else ((if (lg_cmp r13 (0 : Int64)) ≤ (0 : Int32) then (j_X8_fits_107 G D  a1 (z_R G 100 (z_R G 800 a0))) else ((f_X8_isProgramLength G D r15).bind (fun r33 => ((if r33 = (0 : Int32) then (j_X8_fits_107 G D  a1 (z_R G 100 (z_R G 800 a0))) else ((j_X8_fits_108 G D  a1 (z_R G 100 (z_R G 800 a0)) (1 : Int32))))))))))))))))))) else ((some (0 : Int32))))))))))))
set_option maxRecDepth 100000 in
set_option maxHeartbeats 4000000 in
theorem b_X8_fits {q : z_Q} {X : z_X} {G : z_G} {D : z_D} {a0 : Nat} {a1 : Int32} {r : Int32} (o : z_O q X cX8_fits 9 "FlashTrust$States" "fits" (some .boolean)) (hX : x_R X = z_rm 1 0 0) (hK0 : z_K G a0 = 108) (h : f_X8_fits G D a0 a1 = some r) : z_V q X 9 (z_F q X (some (.int r)) G D 0 0) 0 0 G D 0 [(0, .ref (z_w q a0)), (1, .int a1)] [] := by
  unfold f_X8_fits at h
  refine v_aload_n o dX8_fits_0 rfl 0 rfl ?_
  obtain ⟨n1, h⟩ := z_gK_of h
  refine gt_8_0 o hK0 ln_2_84 (by rw [n1]; decide) dX8_fits_1 ?_
  obtain ⟨n2, h⟩ := z_gK_of h
  refine gt_1_0 o n1 ln_1_146 (by rw [n2]; decide) dX8_fits_4 ?_
  refine v_astore_n o [(2, .ref (z_w q (z_R G 100 (z_R G 800 a0)))), (0, .ref (z_w q a0)), (1, .int a1)] dX8_fits_7 rfl (by decide) rfl ?_
  refine v_aload_n o dX8_fits_8 rfl 0 rfl ?_
  refine v_iload_n o dX8_fits_9 rfl 2 rfl ?_
  refine v_bipush o (28 : Int32) dX8_fits_10 (by decide) ?_
  obtain ⟨r4, he3, h⟩ := z_bind h
  refine v_callV o yw_X5_hash ln_2_165 wi_X5_hash ws_X5_hash hX (by decide) 5 rfl n2 (As := [.int a1, .int (28 : Int32)]) rfl rfl (Nat.le_of_ble_eq_true rfl) (e_X5_hash n2 he3) dX8_fits_12 ?_
  obtain ⟨r6, he5, h⟩ := z_bind h
  refine v_callS o yw_X5_checkOf ln_2_166 ws_X5_checkOf hX (by decide) (As := [.long r4]) rfl rfl (Nat.le_of_ble_eq_true rfl) (e_X5_checkOf he5) dX8_fits_15 ?_
  refine v_aload_n o dX8_fits_18 rfl 0 rfl ?_
  refine v_iload_n o dX8_fits_19 rfl 2 rfl ?_
  refine v_bipush o (28 : Int32) dX8_fits_20 (by decide) ?_
  refine v_iadd o dX8_fits_22 ?_
  refine v_iconst o (4 : Int32) dX8_fits_23 (by decide) ?_
  obtain ⟨r8, he7, h⟩ := z_bind h
  refine v_callV o yw_X5_number ln_2_182 wi_X5_number ws_X5_number hX (by decide) 5 rfl n2 (As := [.int (a1 + (28 : Int32)), .int (4 : Int32)]) rfl rfl (Nat.le_of_ble_eq_true rfl) (e_X5_number n2 he7) dX8_fits_24 ?_
  refine v_lcmp o dX8_fits_27 ?_
  refine v_if_eq o 33 dX8_fits_28 (by decide) (fun c9 => ?_) (fun c9 => ?_)
  · replace h := z_ip c9 h
    refine v_aload_n o dX8_fits_33 rfl 0 rfl ?_
    refine v_iload_n o dX8_fits_34 rfl 2 rfl ?_
    refine v_bipush o (15 : Int32) dX8_fits_35 (by decide) ?_
    refine v_iadd o dX8_fits_37 ?_
    obtain ⟨r11, he10, h⟩ := z_bind h
    refine v_callV o yw_X5_at ln_2_192 wi_X5_at ws_X5_at hX (by decide) 5 rfl n2 (As := [.int (a1 + (15 : Int32))]) rfl rfl (Nat.le_of_ble_eq_true rfl) (e_X5_at n2 he10) dX8_fits_38 ?_
    refine v_istore_n o [(3, .int r11), (2, .ref (z_w q (z_R G 100 (z_R G 800 a0)))), (0, .ref (z_w q a0)), (1, .int a1)] dX8_fits_41 rfl (by decide) rfl ?_
    refine v_aload_n o dX8_fits_42 rfl 1 rfl ?_
    refine v_iload_n o dX8_fits_43 rfl 3 rfl ?_
    refine v_bipush o (16 : Int32) dX8_fits_44 (by decide) ?_
    refine v_iadd o dX8_fits_46 ?_
    refine v_iconst o (2 : Int32) dX8_fits_47 (by decide) ?_
    obtain ⟨r13, he12, h⟩ := z_bind h
    refine v_callV o yw_X5_number ln_2_182 wi_X5_number ws_X5_number hX (by decide) 5 rfl n2 (As := [.int (a1 + (16 : Int32)), .int (2 : Int32)]) rfl rfl (Nat.le_of_ble_eq_true rfl) (e_X5_number n2 he12) dX8_fits_48 ?_
    refine v_lstore o [(4, .long r13), (3, .int r11), (2, .ref (z_w q (z_R G 100 (z_R G 800 a0)))), (0, .ref (z_w q a0)), (1, .int a1)] dX8_fits_51 (by decide) rfl ?_
    refine v_aload_n o dX8_fits_53 rfl 2 rfl ?_
    refine v_iload_n o dX8_fits_54 rfl 4 rfl ?_
    refine v_bipush o (18 : Int32) dX8_fits_55 (by decide) ?_
    refine v_iadd o dX8_fits_57 ?_
    refine v_iconst o (2 : Int32) dX8_fits_58 (by decide) ?_
    obtain ⟨r15, he14, h⟩ := z_bind h
    refine v_callV o yw_X5_number ln_2_182 wi_X5_number ws_X5_number hX (by decide) 5 rfl n2 (As := [.int (a1 + (18 : Int32)), .int (2 : Int32)]) rfl rfl (Nat.le_of_ble_eq_true rfl) (e_X5_number n2 he14) dX8_fits_59 ?_
    refine v_lstore o [(6, .long r15), (4, .long r13), (3, .int r11), (2, .ref (z_w q (z_R G 100 (z_R G 800 a0)))), (0, .ref (z_w q a0)), (1, .int a1)] dX8_fits_62 (by decide) rfl ?_
    refine v_iload_n o dX8_fits_64 rfl 2 rfl ?_
    refine v_if_ne o 83 dX8_fits_65 (by decide) (fun c16 => ?_) (fun c16 => ?_)
    · replace h := z_in c16 h
      refine v_iload_n o dX8_fits_83 rfl 2 rfl ?_
      refine v_iconst o (3 : Int32) dX8_fits_84 (by decide) ?_
      refine v_icmp_gt o 107 dX8_fits_85 (by decide) (fun c17 => ?_) (fun c17 => ?_)
      · replace h := z_ip c17 h
        refine v_sub [5, 3] rfl ?_
        exact tj_X8_fits_107 o hX h
      · replace h := z_in c17 h
        refine v_lload o dX8_fits_88 1 rfl ?_
        refine v_lconst o (0 : Int64) dX8_fits_90 (by decide) ?_
        refine v_lcmp o dX8_fits_91 ?_
        refine v_if_le o 107 dX8_fits_92 (by decide) (fun c31 => ?_) (fun c31 => ?_)
        · replace h := z_ip c31 h
          refine v_sub [5, 3] rfl ?_
          exact tj_X8_fits_107 o hX h
        · replace h := z_in c31 h
          refine v_lload o dX8_fits_95 0 rfl ?_
          obtain ⟨r33, he32, h⟩ := z_bind h
          refine v_callS o yw_X8_isProgramLength ln_2_193 ws_X8_isProgramLength hX (by decide) (As := [.long r15]) rfl rfl (Nat.le_of_ble_eq_true rfl) (e_X8_isProgramLength he32) dX8_fits_97 ?_
          refine v_if_eq o 107 dX8_fits_100 (by decide) (fun c34 => ?_) (fun c34 => ?_)
          · replace h := z_ip c34 h
            refine v_sub [5, 3] rfl ?_
            exact tj_X8_fits_107 o hX h
          · replace h := z_in c34 h
            refine v_iconst o (1 : Int32) dX8_fits_103 (by decide) ?_
            refine v_goto o 108 dX8_fits_104 (by decide) ?_
            refine v_sub [5, 3] rfl ?_
            exact tj_X8_fits_108 o hX h
    · replace h := z_ip c16 h
      refine v_lload o dX8_fits_68 0 rfl ?_
      refine v_lconst o (0 : Int64) dX8_fits_70 (by decide) ?_
      refine v_lcmp o dX8_fits_71 ?_
      refine v_if_ne o 79 dX8_fits_72 (by decide) (fun c35 => ?_) (fun c35 => ?_)
      · replace h := z_in c35 h
        refine v_iconst o (0 : Int32) dX8_fits_79 (by decide) ?_
        refine v_goto o 108 dX8_fits_80 (by decide) ?_
        refine v_sub [5, 3] rfl ?_
        exact tj_X8_fits_108 o hX h
      · replace h := z_ip c35 h
        refine v_iconst o (1 : Int32) dX8_fits_75 (by decide) ?_
        refine v_goto o 108 dX8_fits_76 (by decide) ?_
        refine v_sub [5, 3] rfl ?_
        exact tj_X8_fits_108 o hX h
  · replace h := z_in c9 h
    refine v_iconst o (0 : Int32) dX8_fits_31 (by decide) ?_
    have hr := z_some h
    subst hr
    exact v_zreturn o (by decide) dX8_fits_32
theorem e_X8_fits {q : z_Q} {l : Launch} {G : z_G} {D : z_D} {a0 : Nat} {a1 : Int32} {r : Int32} (hK0 : z_K G a0 = 108) (h : f_X8_fits G D a0 a1 = some r) : z_E q l yX8_fits cX8_fits 9 (some .boolean) 1 0 0 [.ref (z_w q a0), .int a1] G D (some (.int r)) G D :=
  z_E.of (by decide) (Nat.le_of_ble_eq_true rfl) (fun X hX _ o => b_X8_fits o hX hK0 h)
def f_X8_load (G : z_G) (D : z_D) (a0 : Nat) (a1 : Int32) : Option (z_D) :=
  z_gK G 101 (z_R G 800 a0) (z_gK G 105 (z_R G 100 (z_R G 800 a0)) ((f_X5_at G D (z_R G 100 (z_R G 800 a0)) (a1 + (4 : Int32))).bind (fun r4 => ((f_X5_number G (z_sI D 806 a0 r4) (z_R G 100 (z_R G 800 a0)) (a1 + (5 : Int32)) (2 : Int32)).bind (fun r6 => ((f_X5_number G (z_sI (z_sI D 806 a0 r4) 807 a0 ((r6).toInt32)) (z_R G 100 (z_R G 800 a0)) (a1 + (7 : Int32)) (2 : Int32)).bind (fun r8 => ((f_X5_number G (z_sI (z_sI (z_sI D 806 a0 r4) 807 a0 ((r6).toInt32)) 808 a0 ((r8).toInt32)) (z_R G 100 (z_R G 800 a0)) (a1 + (9 : Int32)) (6 : Int32)).bind (fun r10 => ((f_X5_at G (z_sJ (z_sI (z_sI (z_sI D 806 a0 r4) 807 a0 ((r6).toInt32)) 808 a0 ((r8).toInt32)) 809 a0 r10) (z_R G 100 (z_R G 800 a0)) (a1 + (15 : Int32))).bind (fun r12 => ((f_X5_number G (z_sI (z_sJ (z_sI (z_sI (z_sI D 806 a0 r4) 807 a0 ((r6).toInt32)) 808 a0 ((r8).toInt32)) 809 a0 r10) 810 a0 r12) (z_R G 100 (z_R G 800 a0)) (a1 + (16 : Int32)) (2 : Int32)).bind (fun r14 => ((f_X5_number G (z_sI (z_sI (z_sJ (z_sI (z_sI (z_sI D 806 a0 r4) 807 a0 ((r6).toInt32)) 808 a0 ((r8).toInt32)) 809 a0 r10) 810 a0 r12) 811 a0 ((r14).toInt32)) (z_R G 100 (z_R G 800 a0)) (a1 + (18 : Int32)) (2 : Int32)).bind (fun r16 => ((f_X5_number G (z_sI (z_sI (z_sI (z_sJ (z_sI (z_sI (z_sI D 806 a0 r4) 807 a0 ((r6).toInt32)) 808 a0 ((r8).toInt32)) 809 a0 r10) 810 a0 r12) 811 a0 ((r14).toInt32)) 812 a0 ((r16).toInt32)) (z_R G 100 (z_R G 800 a0)) (a1 + (20 : Int32)) (6 : Int32)).bind (fun r18 => ((some (z_sJ (z_sI (z_sI (z_sI (z_sJ (z_sI (z_sI (z_sI D 806 a0 r4) 807 a0 ((r6).toInt32)) 808 a0 ((r8).toInt32)) 809 a0 r10) 810 a0 r12) 811 a0 ((r14).toInt32)) 812 a0 ((r16).toInt32)) 813 a0 r18))))))))))))))))))))
set_option maxRecDepth 100000 in
set_option maxHeartbeats 4000000 in
theorem b_X8_load {q : z_Q} {X : z_X} {G : z_G} {D : z_D} {a0 : Nat} {a1 : Int32}  {D1 : z_D} (o : z_O q X cX8_load 3 "FlashTrust$States" "load" none) (hX : x_R X = z_rm 1 0 0) (hK0 : z_K G a0 = 108) (h : f_X8_load G D a0 a1 = some D1) : z_V q X 3 (z_F q X none G D1 0 0) 0 0 G D 0 [(0, .ref (z_w q a0)), (1, .int a1)] [] := by
  unfold f_X8_load at h
  refine v_aload_n o dX8_load_0 rfl 0 rfl ?_
  obtain ⟨n1, h⟩ := z_gK_of h
  refine gt_8_0 o hK0 ln_2_84 (by rw [n1]; decide) dX8_load_1 ?_
  obtain ⟨n2, h⟩ := z_gK_of h
  refine gt_1_0 o n1 ln_1_146 (by rw [n2]; decide) dX8_load_4 ?_
  refine v_astore_n o [(2, .ref (z_w q (z_R G 100 (z_R G 800 a0)))), (0, .ref (z_w q a0)), (1, .int a1)] dX8_load_7 rfl (by decide) rfl ?_
  refine v_aload_n o dX8_load_8 rfl 1 rfl ?_
  refine v_aload_n o dX8_load_9 rfl 0 rfl ?_
  refine v_iload_n o dX8_load_10 rfl 2 rfl ?_
  refine v_iconst o (4 : Int32) dX8_load_11 (by decide) ?_
  refine v_iadd o dX8_load_12 ?_
  obtain ⟨r4, he3, h⟩ := z_bind h
  refine v_callV o yw_X5_at ln_2_192 wi_X5_at ws_X5_at hX (by decide) 5 rfl n2 (As := [.int (a1 + (4 : Int32))]) rfl rfl (Nat.le_of_ble_eq_true rfl) (e_X5_at n2 he3) dX8_load_13 ?_
  refine pt_8_6 o hK0 ln_2_90 dX8_load_16 ?_
  refine v_aload_n o dX8_load_19 rfl 1 rfl ?_
  refine v_aload_n o dX8_load_20 rfl 0 rfl ?_
  refine v_iload_n o dX8_load_21 rfl 2 rfl ?_
  refine v_iconst o (5 : Int32) dX8_load_22 (by decide) ?_
  refine v_iadd o dX8_load_23 ?_
  refine v_iconst o (2 : Int32) dX8_load_24 (by decide) ?_
  obtain ⟨r6, he5, h⟩ := z_bind h
  refine v_callV o yw_X5_number ln_2_182 wi_X5_number ws_X5_number hX (by decide) 5 rfl n2 (As := [.int (a1 + (5 : Int32)), .int (2 : Int32)]) rfl rfl (Nat.le_of_ble_eq_true rfl) (e_X5_number n2 he5) dX8_load_25 ?_
  refine v_l2i o dX8_load_28 ?_
  refine pt_8_7 o hK0 ln_2_92 dX8_load_29 ?_
  refine v_aload_n o dX8_load_32 rfl 1 rfl ?_
  refine v_aload_n o dX8_load_33 rfl 0 rfl ?_
  refine v_iload_n o dX8_load_34 rfl 2 rfl ?_
  refine v_bipush o (7 : Int32) dX8_load_35 (by decide) ?_
  refine v_iadd o dX8_load_37 ?_
  refine v_iconst o (2 : Int32) dX8_load_38 (by decide) ?_
  obtain ⟨r8, he7, h⟩ := z_bind h
  refine v_callV o yw_X5_number ln_2_182 wi_X5_number ws_X5_number hX (by decide) 5 rfl n2 (As := [.int (a1 + (7 : Int32)), .int (2 : Int32)]) rfl rfl (Nat.le_of_ble_eq_true rfl) (e_X5_number n2 he7) dX8_load_39 ?_
  refine v_l2i o dX8_load_42 ?_
  refine pt_8_8 o hK0 ln_2_95 dX8_load_43 ?_
  refine v_aload_n o dX8_load_46 rfl 1 rfl ?_
  refine v_aload_n o dX8_load_47 rfl 0 rfl ?_
  refine v_iload_n o dX8_load_48 rfl 2 rfl ?_
  refine v_bipush o (9 : Int32) dX8_load_49 (by decide) ?_
  refine v_iadd o dX8_load_51 ?_
  refine v_bipush o (6 : Int32) dX8_load_52 (by decide) ?_
  obtain ⟨r10, he9, h⟩ := z_bind h
  refine v_callV o yw_X5_number ln_2_182 wi_X5_number ws_X5_number hX (by decide) 5 rfl n2 (As := [.int (a1 + (9 : Int32)), .int (6 : Int32)]) rfl rfl (Nat.le_of_ble_eq_true rfl) (e_X5_number n2 he9) dX8_load_54 ?_
  refine pt_8_9 o hK0 ln_2_97 dX8_load_57 ?_
  refine v_aload_n o dX8_load_60 rfl 1 rfl ?_
  refine v_aload_n o dX8_load_61 rfl 0 rfl ?_
  refine v_iload_n o dX8_load_62 rfl 2 rfl ?_
  refine v_bipush o (15 : Int32) dX8_load_63 (by decide) ?_
  refine v_iadd o dX8_load_65 ?_
  obtain ⟨r12, he11, h⟩ := z_bind h
  refine v_callV o yw_X5_at ln_2_192 wi_X5_at ws_X5_at hX (by decide) 5 rfl n2 (As := [.int (a1 + (15 : Int32))]) rfl rfl (Nat.le_of_ble_eq_true rfl) (e_X5_at n2 he11) dX8_load_66 ?_
  refine pt_8_10 o hK0 ln_2_99 dX8_load_69 ?_
  refine v_aload_n o dX8_load_72 rfl 1 rfl ?_
  refine v_aload_n o dX8_load_73 rfl 0 rfl ?_
  refine v_iload_n o dX8_load_74 rfl 2 rfl ?_
  refine v_bipush o (16 : Int32) dX8_load_75 (by decide) ?_
  refine v_iadd o dX8_load_77 ?_
  refine v_iconst o (2 : Int32) dX8_load_78 (by decide) ?_
  obtain ⟨r14, he13, h⟩ := z_bind h
  refine v_callV o yw_X5_number ln_2_182 wi_X5_number ws_X5_number hX (by decide) 5 rfl n2 (As := [.int (a1 + (16 : Int32)), .int (2 : Int32)]) rfl rfl (Nat.le_of_ble_eq_true rfl) (e_X5_number n2 he13) dX8_load_79 ?_
  refine v_l2i o dX8_load_82 ?_
  refine pt_8_11 o hK0 ln_2_102 dX8_load_83 ?_
  refine v_aload_n o dX8_load_86 rfl 1 rfl ?_
  refine v_aload_n o dX8_load_87 rfl 0 rfl ?_
  refine v_iload_n o dX8_load_88 rfl 2 rfl ?_
  refine v_bipush o (18 : Int32) dX8_load_89 (by decide) ?_
  refine v_iadd o dX8_load_91 ?_
  refine v_iconst o (2 : Int32) dX8_load_92 (by decide) ?_
  obtain ⟨r16, he15, h⟩ := z_bind h
  refine v_callV o yw_X5_number ln_2_182 wi_X5_number ws_X5_number hX (by decide) 5 rfl n2 (As := [.int (a1 + (18 : Int32)), .int (2 : Int32)]) rfl rfl (Nat.le_of_ble_eq_true rfl) (e_X5_number n2 he15) dX8_load_93 ?_
  refine v_l2i o dX8_load_96 ?_
  refine pt_8_12 o hK0 ln_2_105 dX8_load_97 ?_
  refine v_aload_n o dX8_load_100 rfl 1 rfl ?_
  refine v_aload_n o dX8_load_101 rfl 0 rfl ?_
  refine v_iload_n o dX8_load_102 rfl 2 rfl ?_
  refine v_bipush o (20 : Int32) dX8_load_103 (by decide) ?_
  refine v_iadd o dX8_load_105 ?_
  refine v_bipush o (6 : Int32) dX8_load_106 (by decide) ?_
  obtain ⟨r18, he17, h⟩ := z_bind h
  refine v_callV o yw_X5_number ln_2_182 wi_X5_number ws_X5_number hX (by decide) 5 rfl n2 (As := [.int (a1 + (20 : Int32)), .int (6 : Int32)]) rfl rfl (Nat.le_of_ble_eq_true rfl) (e_X5_number n2 he17) dX8_load_108 ?_
  refine pt_8_13 o hK0 ln_2_108 dX8_load_111 ?_
  have hr := z_some h
  subst hr
  exact v_return o dX8_load_114
theorem e_X8_load {q : z_Q} {l : Launch} {G : z_G} {D : z_D} {a0 : Nat} {a1 : Int32}  {D1 : z_D} (hK0 : z_K G a0 = 108) (h : f_X8_load G D a0 a1 = some D1) : z_E q l yX8_load cX8_load 3 none 1 0 0 [.ref (z_w q a0), .int a1] G D none G D1 :=
  z_E.of (by decide) (Nat.le_of_ble_eq_true rfl) (fun X hX _ o => b_X8_load o hX hK0 h)
def p_X8_look_6 (q : z_Q) (X : z_X) (Q : State → Prop) (G : z_G) (a0 : Nat) : (z_D × Int32) → Prop := (fun v => z_V q X 5 Q 0 0 G v.1 6 [(0, .ref (z_w q a0)), (1, .int v.2)] [])
def x_X8_look_6 (q : z_Q) (X : z_X) (Q : State → Prop) (G : z_G) (a0 : Nat) : z_D → Prop := (fun v => z_V q X 5 Q 0 0 G v 76 [(0, .ref (z_w q a0))] [])
def k_X8_look_6 (q : z_Q) (X : z_X) (Q : State → Prop) (G : z_G) (a0 : Nat) : (z_D × Int32) ⊕ z_D → Prop := Sum.elim (p_X8_look_6 q X Q G a0) (x_X8_look_6 q X Q G a0)
def c_X8_look_6 (G : z_G) (D : z_D) (a0 : Nat) (a1 : Int32) : Option ((z_D × Int32) ⊕ z_D) :=
  (if (8 : Int32) ≤ a1 then (some (.inr D)) else (z_gK G 101 (z_R G 800 a0) (z_gK G 105 (z_R G 100 (z_R G 800 a0)) ((f_X5_number G D (z_R G 100 (z_R G 800 a0)) (((32 : Int32) + a1) * (32 : Int32)) (4 : Int32)).bind (fun r7 => ((if (lg_cmp r7 (((z_I D 805 a0)).toInt64)) ≤ (0 : Int32) then ((some (.inl (D, (a1 + (1 : Int32)))))) else ((if (0 : Int32) < (lg_cmp r7 (2147483647 : Int64)) then ((some (.inl (D, (a1 + (1 : Int32)))))) else ((f_X8_fits G D a0 (((32 : Int32) + a1) * (32 : Int32))).bind (fun r11 => ((if r11 = (0 : Int32) then ((some (.inl (D, (a1 + (1 : Int32)))))) else ((some (.inl ((z_sI (z_sI D 804 a0 a1) 805 a0 ((r7).toInt32)), (a1 + (1 : Int32)))))))))))))))))))
set_option maxRecDepth 100000 in
set_option maxHeartbeats 4000000 in
theorem tc_X8_look_6 {q : z_Q} {X : z_X} {G : z_G} {D : z_D} {Q : State → Prop} {a0 : Nat} {a1 : Int32} (o : z_O q X cX8_look 5 "FlashTrust$States" "look" none) (hX : x_R X = z_rm 2 0 0) (hK0 : z_K G a0 = 108) {ρ : (z_D × Int32) ⊕ z_D} (h : c_X8_look_6 G D a0 a1 = some ρ) (hk : k_X8_look_6 q X Q G a0 ρ) : z_V q X 5 Q 0 0 G D 6 [(0, .ref (z_w q a0)), (1, .int a1)] [] := by
  unfold c_X8_look_6 at h
  refine v_iload_n o dX8_look_6 rfl 1 rfl ?_
  refine v_bipush o (8 : Int32) dX8_look_7 (by decide) ?_
  refine v_icmp_ge o 76 dX8_look_9 (by decide) (fun c3 => ?_) (fun c3 => ?_)
  · replace h := z_ip c3 h
    obtain rfl := z_some h
    refine v_sub [0] rfl ?_
    exact hk
  · replace h := z_in c3 h
    refine v_bipush o (32 : Int32) dX8_look_12 (by decide) ?_
    refine v_iload_n o dX8_look_14 rfl 1 rfl ?_
    refine v_iadd o dX8_look_15 ?_
    refine v_bipush o (32 : Int32) dX8_look_16 (by decide) ?_
    refine v_imul o dX8_look_18 ?_
    refine v_istore_n o [(2, .int (((32 : Int32) + a1) * (32 : Int32))), (0, .ref (z_w q a0)), (1, .int a1)] dX8_look_19 rfl (by decide) rfl ?_
    refine v_aload_n o dX8_look_20 rfl 1 rfl ?_
    obtain ⟨n4, h⟩ := z_gK_of h
    refine gt_8_0 o hK0 ln_2_84 (by rw [n4]; decide) dX8_look_21 ?_
    obtain ⟨n5, h⟩ := z_gK_of h
    refine gt_1_0 o n4 ln_1_146 (by rw [n5]; decide) dX8_look_24 ?_
    refine v_iload_n o dX8_look_27 rfl 0 rfl ?_
    refine v_iconst o (4 : Int32) dX8_look_28 (by decide) ?_
    obtain ⟨r7, he6, h⟩ := z_bind h
    refine v_callV o yw_X5_number ln_2_182 wi_X5_number ws_X5_number hX (by decide) 5 rfl n5 (As := [.int (((32 : Int32) + a1) * (32 : Int32)), .int (4 : Int32)]) rfl rfl (Nat.le_of_ble_eq_true rfl) (e_X5_number n5 he6) dX8_look_29 ?_
    refine v_lstore_n o [(3, .long r7), (2, .int (((32 : Int32) + a1) * (32 : Int32))), (0, .ref (z_w q a0)), (1, .int a1)] dX8_look_32 rfl (by decide) rfl ?_
    refine v_lload_n o dX8_look_33 rfl 0 rfl ?_
    refine v_aload_n o dX8_look_34 rfl 2 rfl ?_
    refine gt_8_5 o hK0 ln_2_89 dX8_look_35 ?_
    refine v_i2l o dX8_look_38 ?_
    refine v_lcmp o dX8_look_39 ?_
    refine v_if_le o 70 dX8_look_40 (by decide) (fun c8 => ?_) (fun c8 => ?_)
    · replace h := z_ip c8 h
      refine v_iinc o (a1 + (1 : Int32)) [(1, .int (a1 + (1 : Int32))), (3, .long r7), (2, .int (((32 : Int32) + a1) * (32 : Int32))), (0, .ref (z_w q a0))] dX8_look_70 3 rfl rfl (by decide) rfl ?_
      refine v_goto o 6 dX8_look_73 (by decide) ?_
      obtain rfl := z_some h
      refine v_sub [3, 0] rfl ?_
      exact hk
    · replace h := z_in c8 h
      refine v_lload_n o dX8_look_43 rfl 0 rfl ?_
      refine v_ldc2 o ln_2_187 dX8_look_44 ?_
      refine v_lcmp o dX8_look_47 ?_
      refine v_if_gt o 70 dX8_look_48 (by decide) (fun c9 => ?_) (fun c9 => ?_)
      · replace h := z_ip c9 h
        refine v_iinc o (a1 + (1 : Int32)) [(1, .int (a1 + (1 : Int32))), (3, .long r7), (2, .int (((32 : Int32) + a1) * (32 : Int32))), (0, .ref (z_w q a0))] dX8_look_70 3 rfl rfl (by decide) rfl ?_
        refine v_goto o 6 dX8_look_73 (by decide) ?_
        obtain rfl := z_some h
        refine v_sub [3, 0] rfl ?_
        exact hk
      · replace h := z_in c9 h
        refine v_aload_n o dX8_look_51 rfl 2 rfl ?_
        refine v_iload_n o dX8_look_52 rfl 1 rfl ?_
        obtain ⟨r11, he10, h⟩ := z_bind h
        refine v_callV o yw_X8_fits ln_2_188 wi_X8_fits ws_X8_fits hX (by decide) 8 rfl hK0 (As := [.int (((32 : Int32) + a1) * (32 : Int32))]) rfl rfl (Nat.le_of_ble_eq_true rfl) (e_X8_fits hK0 he10) dX8_look_53 ?_
        refine v_if_eq o 70 dX8_look_56 (by decide) (fun c12 => ?_) (fun c12 => ?_)
        · replace h := z_ip c12 h
          refine v_iinc o (a1 + (1 : Int32)) [(1, .int (a1 + (1 : Int32))), (3, .long r7), (2, .int (((32 : Int32) + a1) * (32 : Int32))), (0, .ref (z_w q a0))] dX8_look_70 3 rfl rfl (by decide) rfl ?_
          refine v_goto o 6 dX8_look_73 (by decide) ?_
          obtain rfl := z_some h
          refine v_sub [3, 0] rfl ?_
          exact hk
        · replace h := z_in c12 h
          refine v_aload_n o dX8_look_59 rfl 2 rfl ?_
          refine v_iload_n o dX8_look_60 rfl 3 rfl ?_
          refine pt_8_4 o hK0 ln_2_88 dX8_look_61 ?_
          refine v_aload_n o dX8_look_64 rfl 2 rfl ?_
          refine v_lload_n o dX8_look_65 rfl 0 rfl ?_
          refine v_l2i o dX8_look_66 ?_
          refine pt_8_5 o hK0 ln_2_89 dX8_look_67 ?_
          refine v_iinc o (a1 + (1 : Int32)) [(1, .int (a1 + (1 : Int32))), (3, .long r7), (2, .int (((32 : Int32) + a1) * (32 : Int32))), (0, .ref (z_w q a0))] dX8_look_70 3 rfl rfl (by decide) rfl ?_
          refine v_goto o 6 dX8_look_73 (by decide) ?_
          obtain rfl := z_some h
          refine v_sub [3, 0] rfl ?_
          exact hk
def f_X8_look (G : z_G) (D : z_D) (a0 : Nat) : Option (z_D) :=
  (f_X8_becomeFactory G D a0).bind (fun D2 => (((z_loop (fun v => c_X8_look_6 G v.1 a0 v.2) 4000 (D2, (0 : Int32))).bind (fun e13 => (if (z_I e13 804 a0) < (0 : Int32) then ((some e13)) else ((f_X8_load G e13 a0 (((32 : Int32) + (z_I e13 804 a0)) * (32 : Int32))).bind (fun D17 => ((some D17)))))))))
set_option maxRecDepth 100000 in
set_option maxHeartbeats 4000000 in
theorem b_X8_look {q : z_Q} {X : z_X} {G : z_G} {D : z_D} {a0 : Nat}  {D1 : z_D} (o : z_O q X cX8_look 5 "FlashTrust$States" "look" none) (hX : x_R X = z_rm 2 0 0) (hK0 : z_K G a0 = 108) (h : f_X8_look G D a0 = some D1) : z_V q X 5 (z_F q X none G D1 0 0) 0 0 G D 0 [(0, .ref (z_w q a0))] [] := by
  unfold f_X8_look at h
  refine v_aload_n o dX8_look_0 rfl 0 rfl ?_
  obtain ⟨D2, he1, h⟩ := z_bind h
  refine v_callV o yw_X8_becomeFactory ln_2_144 wi_X8_becomeFactory ws_X8_becomeFactory hX (by decide) 8 rfl hK0 (As := []) rfl rfl (Nat.le_of_ble_eq_true rfl) (e_X8_becomeFactory hK0 he1) dX8_look_1 ?_
  refine v_iconst o (0 : Int32) dX8_look_4 (by decide) ?_
  refine v_istore_n o [(1, .int (0 : Int32)), (0, .ref (z_w q a0))] dX8_look_5 rfl (by decide) rfl ?_
  refine v_sub [1, 0] rfl ?_
  obtain ⟨e13, he14, h⟩ := z_bind h
  refine z_loopV (P := p_X8_look_6 q X _ G a0) (E := x_X8_look_6 q X _ G a0) (fun v ρ hb hk => tc_X8_look_6 (D := v.1) (a0 := a0) (a1 := v.2) o hX hK0 hb hk) 4000 _ e13 he14 ?_
  show z_V q X 5 _ _ _ G e13 76 [(0, .ref (z_w q a0))] []
  refine v_aload_n o dX8_look_76 rfl 0 rfl ?_
  refine gt_8_4 o hK0 ln_2_88 dX8_look_77 ?_
  refine v_if_lt o 97 dX8_look_80 (by decide) (fun c15 => ?_) (fun c15 => ?_)
  · replace h := z_ip c15 h
    have hr := z_some h
    subst hr
    exact v_return o dX8_look_97
  · replace h := z_in c15 h
    refine v_aload_n o dX8_look_83 rfl 0 rfl ?_
    refine v_bipush o (32 : Int32) dX8_look_84 (by decide) ?_
    refine v_aload_n o dX8_look_86 rfl 0 rfl ?_
    refine gt_8_4 o hK0 ln_2_88 dX8_look_87 ?_
    refine v_iadd o dX8_look_90 ?_
    refine v_bipush o (32 : Int32) dX8_look_91 (by decide) ?_
    refine v_imul o dX8_look_93 ?_
    obtain ⟨D17, he16, h⟩ := z_bind h
    refine v_callV o yw_X8_load ln_2_197 wi_X8_load ws_X8_load hX (by decide) 8 rfl hK0 (As := [.int (((32 : Int32) + (z_I e13 804 a0)) * (32 : Int32))]) rfl rfl (Nat.le_of_ble_eq_true rfl) (e_X8_load hK0 he16) dX8_look_94 ?_
    have hr := z_some h
    subst hr
    exact v_return o dX8_look_97
theorem e_X8_look {q : z_Q} {l : Launch} {G : z_G} {D : z_D} {a0 : Nat}  {D1 : z_D} (hK0 : z_K G a0 = 108) (h : f_X8_look G D a0 = some D1) : z_E q l yX8_look cX8_look 5 none 2 0 0 [.ref (z_w q a0)] G D none G D1 :=
  z_E.of (by decide) (Nat.le_of_ble_eq_true rfl) (fun X hX _ o => b_X8_look o hX hK0 h)
def f_X8_install (G : z_G) (D : z_D) (a0 : Nat) : Option (z_D) :=
  (f_X8_becomeFactory G D a0).bind (fun D2 => ((f_X8_compose G D2 a0 (1 : Int32)).bind (fun D4 => (z_gK G 101 (z_R G 800 a0) (z_gK G 105 (z_R G 803 a0) ((f_X1_burn G D4 (z_R G 800 a0) (32 : Int32) (z_R G 803 a0) (0 : Int32)).bind (fun D8 => ((f_X8_look G D8 a0).bind (fun D10 => ((some D10)))))))))))
set_option maxRecDepth 100000 in
set_option maxHeartbeats 4000000 in
theorem b_X8_install {q : z_Q} {X : z_X} {G : z_G} {D : z_D} {a0 : Nat}  {D1 : z_D} (o : z_O q X cX8_install 1 "FlashTrust$States" "install" none) (hX : x_R X = z_rm 3 0 0) (hK0 : z_K G a0 = 108) (h : f_X8_install G D a0 = some D1) : z_V q X 1 (z_F q X none G D1 0 0) 0 0 G D 0 [(0, .ref (z_w q a0))] [] := by
  unfold f_X8_install at h
  refine v_aload_n o dX8_install_0 rfl 0 rfl ?_
  obtain ⟨D2, he1, h⟩ := z_bind h
  refine v_callV o yw_X8_becomeFactory ln_2_144 wi_X8_becomeFactory ws_X8_becomeFactory hX (by decide) 8 rfl hK0 (As := []) rfl rfl (Nat.le_of_ble_eq_true rfl) (e_X8_becomeFactory hK0 he1) dX8_install_1 ?_
  refine v_aload_n o dX8_install_4 rfl 0 rfl ?_
  refine v_iconst o (1 : Int32) dX8_install_5 (by decide) ?_
  obtain ⟨D4, he3, h⟩ := z_bind h
  refine v_callV o yw_X8_compose ln_2_152 wi_X8_compose ws_X8_compose hX (by decide) 8 rfl hK0 (As := [.int (1 : Int32)]) rfl rfl (Nat.le_of_ble_eq_true rfl) (e_X8_compose hK0 he3) dX8_install_6 ?_
  refine v_aload_n o dX8_install_9 rfl 0 rfl ?_
  obtain ⟨n5, h⟩ := z_gK_of h
  refine gt_8_0 o hK0 ln_2_84 (by rw [n5]; decide) dX8_install_10 ?_
  refine v_bipush o (32 : Int32) dX8_install_13 (by decide) ?_
  refine v_aload_n o dX8_install_15 rfl 0 rfl ?_
  obtain ⟨n6, h⟩ := z_gK_of h
  refine gt_8_3 o hK0 ln_2_87 (by rw [n6]; decide) dX8_install_16 ?_
  refine v_iconst o (0 : Int32) dX8_install_19 (by decide) ?_
  obtain ⟨D8, he7, h⟩ := z_bind h
  refine v_callV o yw_X1_burn ln_2_170 wi_X1_burn ws_X1_burn hX (by decide) 1 rfl n5 (As := [.int (32 : Int32), .ref (z_w q (z_R G 803 a0)), .int (0 : Int32)]) rfl rfl (Nat.le_of_ble_eq_true rfl) (e_X1_burn n5 he7) dX8_install_20 ?_
  refine v_aload_n o dX8_install_23 rfl 0 rfl ?_
  obtain ⟨D10, he9, h⟩ := z_bind h
  refine v_callV o yw_X8_look ln_2_178 wi_X8_look ws_X8_look hX (by decide) 8 rfl hK0 (As := []) rfl rfl (Nat.le_of_ble_eq_true rfl) (e_X8_look hK0 he9) dX8_install_24 ?_
  have hr := z_some h
  subst hr
  exact v_return o dX8_install_27
theorem e_X8_install {q : z_Q} {l : Launch} {G : z_G} {D : z_D} {a0 : Nat}  {D1 : z_D} (hK0 : z_K G a0 = 108) (h : f_X8_install G D a0 = some D1) : z_E q l yX8_install cX8_install 1 none 3 0 0 [.ref (z_w q a0)] G D none G D1 :=
  z_E.of (by decide) (Nat.le_of_ble_eq_true rfl) (fun X hX _ o => b_X8_install o hX hK0 h)
def f_X8_stageNothing (G : z_G) (D : z_D) (a0 : Nat) : Option (z_D) :=
  (f_X8_stage G D a0 (0 : Int32) (0 : Int32) (0 : Int32) (0 : Int64)).bind (fun D2 => ((some D2)))
set_option maxRecDepth 100000 in
set_option maxHeartbeats 4000000 in
theorem b_X8_stageNothing {q : z_Q} {X : z_X} {G : z_G} {D : z_D} {a0 : Nat}  {D1 : z_D} (o : z_O q X cX8_stageNothing 1 "FlashTrust$States" "stageNothing" none) (hX : x_R X = z_rm 1 0 0) (hK0 : z_K G a0 = 108) (h : f_X8_stageNothing G D a0 = some D1) : z_V q X 1 (z_F q X none G D1 0 0) 0 0 G D 0 [(0, .ref (z_w q a0))] [] := by
  unfold f_X8_stageNothing at h
  refine v_aload_n o dX8_stageNothing_0 rfl 0 rfl ?_
  refine v_iconst o (0 : Int32) dX8_stageNothing_1 (by decide) ?_
  refine v_iconst o (0 : Int32) dX8_stageNothing_2 (by decide) ?_
  refine v_iconst o (0 : Int32) dX8_stageNothing_3 (by decide) ?_
  refine v_lconst o (0 : Int64) dX8_stageNothing_4 (by decide) ?_
  obtain ⟨D2, he1, h⟩ := z_bind h
  refine v_callV o yw_X8_stage ln_2_148 wi_X8_stage ws_X8_stage hX (by decide) 8 rfl hK0 (As := [.int (0 : Int32), .int (0 : Int32), .int (0 : Int32), .long (0 : Int64)]) rfl rfl (Nat.le_of_ble_eq_true rfl) (e_X8_stage hK0 he1) dX8_stageNothing_5 ?_
  have hr := z_some h
  subst hr
  exact v_return o dX8_stageNothing_8
theorem e_X8_stageNothing {q : z_Q} {l : Launch} {G : z_G} {D : z_D} {a0 : Nat}  {D1 : z_D} (hK0 : z_K G a0 = 108) (h : f_X8_stageNothing G D a0 = some D1) : z_E q l yX8_stageNothing cX8_stageNothing 1 none 1 0 0 [.ref (z_w q a0)] G D none G D1 :=
  z_E.of (by decide) (Nat.le_of_ble_eq_true rfl) (fun X hX _ o => b_X8_stageNothing o hX hK0 h)
def f_X8_otherSlot (G : z_G) (D : z_D) (a0 : Nat) : Option (Int32) :=
  (some ((1 : Int32) - (z_I D 806 a0)))
set_option maxRecDepth 100000 in
set_option maxHeartbeats 4000000 in
theorem b_X8_otherSlot {q : z_Q} {X : z_X} {G : z_G} {D : z_D} {a0 : Nat} {r : Int32} (o : z_O q X cX8_otherSlot 1 "FlashTrust$States" "otherSlot" (some .int)) (hX : x_R X = z_rm 0 0 0) (hK0 : z_K G a0 = 108) (h : f_X8_otherSlot G D a0 = some r) : z_V q X 1 (z_F q X (some (.int r)) G D 0 0) 0 0 G D 0 [(0, .ref (z_w q a0))] [] := by
  unfold f_X8_otherSlot at h
  refine v_iconst o (1 : Int32) dX8_otherSlot_0 (by decide) ?_
  refine v_aload_n o dX8_otherSlot_1 rfl 0 rfl ?_
  refine gt_8_6 o hK0 ln_2_90 dX8_otherSlot_2 ?_
  refine v_isub o dX8_otherSlot_5 ?_
  have hr := z_some h
  subst hr
  exact v_ireturn o dX8_otherSlot_6
theorem e_X8_otherSlot {q : z_Q} {l : Launch} {G : z_G} {D : z_D} {a0 : Nat} {r : Int32} (hK0 : z_K G a0 = 108) (h : f_X8_otherSlot G D a0 = some r) : z_E q l yX8_otherSlot cX8_otherSlot 1 (some .int) 0 0 0 [.ref (z_w q a0)] G D (some (.int r)) G D :=
  z_E.of (by decide) (Nat.le_of_ble_eq_true rfl) (fun X hX _ o => b_X8_otherSlot o hX hK0 h)
def f_X8_confirmStaged (G : z_G) (D : z_D) (a0 : Nat) : Option (z_D) :=
  (f_X8_otherSlot G D a0).bind (fun r2 => ((f_X8_stageNothing G (z_sJ (z_sI (z_sI (z_sI D 806 a0 r2) 807 a0 (z_I (z_sI D 806 a0 r2) 811 a0)) 808 a0 (z_I (z_sI (z_sI D 806 a0 r2) 807 a0 (z_I (z_sI D 806 a0 r2) 811 a0)) 812 a0)) 809 a0 (z_J (z_sI (z_sI (z_sI D 806 a0 r2) 807 a0 (z_I (z_sI D 806 a0 r2) 811 a0)) 808 a0 (z_I (z_sI (z_sI D 806 a0 r2) 807 a0 (z_I (z_sI D 806 a0 r2) 811 a0)) 812 a0)) 813 a0)) a0).bind (fun D4 => ((some D4)))))
set_option maxRecDepth 100000 in
set_option maxHeartbeats 4000000 in
theorem b_X8_confirmStaged {q : z_Q} {X : z_X} {G : z_G} {D : z_D} {a0 : Nat}  {D1 : z_D} (o : z_O q X cX8_confirmStaged 1 "FlashTrust$States" "confirmStaged" none) (hX : x_R X = z_rm 2 0 0) (hK0 : z_K G a0 = 108) (h : f_X8_confirmStaged G D a0 = some D1) : z_V q X 1 (z_F q X none G D1 0 0) 0 0 G D 0 [(0, .ref (z_w q a0))] [] := by
  unfold f_X8_confirmStaged at h
  refine v_aload_n o dX8_confirmStaged_0 rfl 0 rfl ?_
  refine v_aload_n o dX8_confirmStaged_1 rfl 0 rfl ?_
  obtain ⟨r2, he1, h⟩ := z_bind h
  refine v_callV o yw_X8_otherSlot ln_4_234 wi_X8_otherSlot ws_X8_otherSlot hX (by decide) 8 rfl hK0 (As := []) rfl rfl (Nat.le_of_ble_eq_true rfl) (e_X8_otherSlot hK0 he1) dX8_confirmStaged_2 ?_
  refine pt_8_6 o hK0 ln_2_90 dX8_confirmStaged_5 ?_
  refine v_aload_n o dX8_confirmStaged_8 rfl 0 rfl ?_
  refine v_aload_n o dX8_confirmStaged_9 rfl 0 rfl ?_
  refine gt_8_11 o hK0 ln_2_102 dX8_confirmStaged_10 ?_
  refine pt_8_7 o hK0 ln_2_92 dX8_confirmStaged_13 ?_
  refine v_aload_n o dX8_confirmStaged_16 rfl 0 rfl ?_
  refine v_aload_n o dX8_confirmStaged_17 rfl 0 rfl ?_
  refine gt_8_12 o hK0 ln_2_105 dX8_confirmStaged_18 ?_
  refine pt_8_8 o hK0 ln_2_95 dX8_confirmStaged_21 ?_
  refine v_aload_n o dX8_confirmStaged_24 rfl 0 rfl ?_
  refine v_aload_n o dX8_confirmStaged_25 rfl 0 rfl ?_
  refine gt_8_13 o hK0 ln_2_108 dX8_confirmStaged_26 ?_
  refine pt_8_9 o hK0 ln_2_97 dX8_confirmStaged_29 ?_
  refine v_aload_n o dX8_confirmStaged_32 rfl 0 rfl ?_
  obtain ⟨D4, he3, h⟩ := z_bind h
  refine v_callV o yw_X8_stageNothing ln_4_235 wi_X8_stageNothing ws_X8_stageNothing hX (by decide) 8 rfl hK0 (As := []) rfl rfl (Nat.le_of_ble_eq_true rfl) (e_X8_stageNothing hK0 he3) dX8_confirmStaged_33 ?_
  have hr := z_some h
  subst hr
  exact v_return o dX8_confirmStaged_36
theorem e_X8_confirmStaged {q : z_Q} {l : Launch} {G : z_G} {D : z_D} {a0 : Nat}  {D1 : z_D} (hK0 : z_K G a0 = 108) (h : f_X8_confirmStaged G D a0 = some D1) : z_E q l yX8_confirmStaged cX8_confirmStaged 1 none 2 0 0 [.ref (z_w q a0)] G D none G D1 :=
  z_E.of (by decide) (Nat.le_of_ble_eq_true rfl) (fun X hX _ o => b_X8_confirmStaged o hX hK0 h)
def f_X8_stages (G : z_G) (D : z_D) (a0 : Nat) (a1 : Int32) (a2 : Int32) (a3 : Int64) : Option (Int32) :=
  (if (z_I D 811 a0) = a1 then ((if (z_I D 812 a0) = a2 then ((if (lg_cmp (z_J D 813 a0) a3) = (0 : Int32) then (((some (1 : Int32)))) else ((some (0 : Int32))))) else ((some (0 : Int32))))) else ((some (0 : Int32))))
set_option maxRecDepth 100000 in
set_option maxHeartbeats 4000000 in
theorem b_X8_stages {q : z_Q} {X : z_X} {G : z_G} {D : z_D} {a0 : Nat} {a1 : Int32} {a2 : Int32} {a3 : Int64} {r : Int32} (o : z_O q X cX8_stages 5 "FlashTrust$States" "stages" (some .boolean)) (hX : x_R X = z_rm 0 0 0) (hK0 : z_K G a0 = 108) (h : f_X8_stages G D a0 a1 a2 a3 = some r) : z_V q X 5 (z_F q X (some (.int r)) G D 0 0) 0 0 G D 0 [(0, .ref (z_w q a0)), (1, .int a1), (2, .int a2), (3, .long a3)] [] := by
  unfold f_X8_stages at h
  refine v_aload_n o dX8_stages_0 rfl 0 rfl ?_
  refine gt_8_11 o hK0 ln_2_102 dX8_stages_1 ?_
  refine v_iload_n o dX8_stages_4 rfl 1 rfl ?_
  refine v_icmp_ne o 29 dX8_stages_5 (by decide) (fun c1 => ?_) (fun c1 => ?_)
  · replace h := z_in c1 h
    refine v_iconst o (0 : Int32) dX8_stages_29 (by decide) ?_
    have hr := z_some h
    subst hr
    exact v_zreturn o (by decide) dX8_stages_30
  · replace h := z_ip c1 h
    refine v_aload_n o dX8_stages_8 rfl 0 rfl ?_
    refine gt_8_12 o hK0 ln_2_105 dX8_stages_9 ?_
    refine v_iload_n o dX8_stages_12 rfl 2 rfl ?_
    refine v_icmp_ne o 29 dX8_stages_13 (by decide) (fun c2 => ?_) (fun c2 => ?_)
    · replace h := z_in c2 h
      refine v_iconst o (0 : Int32) dX8_stages_29 (by decide) ?_
      have hr := z_some h
      subst hr
      exact v_zreturn o (by decide) dX8_stages_30
    · replace h := z_ip c2 h
      refine v_aload_n o dX8_stages_16 rfl 0 rfl ?_
      refine gt_8_13 o hK0 ln_2_108 dX8_stages_17 ?_
      refine v_lload_n o dX8_stages_20 rfl 3 rfl ?_
      refine v_lcmp o dX8_stages_21 ?_
      refine v_if_ne o 29 dX8_stages_22 (by decide) (fun c3 => ?_) (fun c3 => ?_)
      · replace h := z_in c3 h
        refine v_iconst o (0 : Int32) dX8_stages_29 (by decide) ?_
        have hr := z_some h
        subst hr
        exact v_zreturn o (by decide) dX8_stages_30
      · replace h := z_ip c3 h
        refine v_iconst o (1 : Int32) dX8_stages_25 (by decide) ?_
        refine v_goto o 30 dX8_stages_26 (by decide) ?_
        have hr := z_some h
        subst hr
        exact v_zreturn o (by decide) dX8_stages_30
theorem e_X8_stages {q : z_Q} {l : Launch} {G : z_G} {D : z_D} {a0 : Nat} {a1 : Int32} {a2 : Int32} {a3 : Int64} {r : Int32} (hK0 : z_K G a0 = 108) (h : f_X8_stages G D a0 a1 a2 a3 = some r) : z_E q l yX8_stages cX8_stages 5 (some .boolean) 0 0 0 [.ref (z_w q a0), .int a1, .int a2, .long a3] G D (some (.int r)) G D :=
  z_E.of (by decide) (Nat.le_of_ble_eq_true rfl) (fun X hX _ o => b_X8_stages o hX hK0 h)
def p_X8_nextBlank_7 (q : z_Q) (X : z_X) (Q : State → Prop) (G : z_G) (D : z_D) (a0 : Nat) (a1 : Int32) : Int32 → Prop := (fun v => z_V q X 3 Q 0 0 G D 7 [(0, .ref (z_w q a0)), (1, .int a1), (2, .int v)] [])
def x_X8_nextBlank_7 (q : z_Q) (X : z_X) (Q : State → Prop) (G : z_G) (D : z_D) (a0 : Nat) (a1 : Int32) : (Int32 ⊕ Unit) → Prop := (Sum.elim (fun v => z_V q X 3 Q 0 0 G D 30 [(2, .int v)] []) (fun v => z_V q X 3 Q 0 0 G D 38 [] []))
def k_X8_nextBlank_7 (q : z_Q) (X : z_X) (Q : State → Prop) (G : z_G) (D : z_D) (a0 : Nat) (a1 : Int32) : Int32 ⊕ (Int32 ⊕ Unit) → Prop := Sum.elim (p_X8_nextBlank_7 q X Q G D a0 a1) (x_X8_nextBlank_7 q X Q G D a0 a1)
def c_X8_nextBlank_7 (G : z_G) (D : z_D) (a0 : Nat) (a1 : Int32) (a2 : Int32) : Option (Int32 ⊕ (Int32 ⊕ Unit)) :=
  (if ((a1 + (1 : Int32)) * (4 : Int32)) ≤ a2 then (some (.inr (.inr ()))) else (z_gK G 101 (z_R G 800 a0) ((f_X1_isBlank G D (z_R G 800 a0) ((32 : Int32) + a2)).bind (fun r4 => ((if r4 = (0 : Int32) then ((some (.inl (a2 + (1 : Int32))))) else (some (.inr (.inl a2)))))))))
set_option maxRecDepth 100000 in
set_option maxHeartbeats 4000000 in
theorem tc_X8_nextBlank_7 {q : z_Q} {X : z_X} {G : z_G} {D : z_D} {Q : State → Prop} {a0 : Nat} {a1 : Int32} {a2 : Int32} (o : z_O q X cX8_nextBlank 3 "FlashTrust$States" "nextBlank" (some .int)) (hX : x_R X = z_rm 2 0 0) (hK0 : z_K G a0 = 108) {ρ : Int32 ⊕ (Int32 ⊕ Unit)} (h : c_X8_nextBlank_7 G D a0 a1 a2 = some ρ) (hk : k_X8_nextBlank_7 q X Q G D a0 a1 ρ) : z_V q X 3 Q 0 0 G D 7 [(0, .ref (z_w q a0)), (1, .int a1), (2, .int a2)] [] := by
  unfold c_X8_nextBlank_7 at h
  refine v_iload_n o dX8_nextBlank_7 rfl 2 rfl ?_
  refine v_iload_n o dX8_nextBlank_8 rfl 1 rfl ?_
  refine v_iconst o (1 : Int32) dX8_nextBlank_9 (by decide) ?_
  refine v_iadd o dX8_nextBlank_10 ?_
  refine v_iconst o (4 : Int32) dX8_nextBlank_11 (by decide) ?_
  refine v_imul o dX8_nextBlank_12 ?_
  refine v_icmp_ge o 38 dX8_nextBlank_13 (by decide) (fun c1 => ?_) (fun c1 => ?_)
  · replace h := z_ip c1 h
    obtain rfl := z_some h
    refine v_sub [] rfl ?_
    exact hk
  · replace h := z_in c1 h
    refine v_aload_n o dX8_nextBlank_16 rfl 0 rfl ?_
    obtain ⟨n2, h⟩ := z_gK_of h
    refine gt_8_0 o hK0 ln_2_84 (by rw [n2]; decide) dX8_nextBlank_17 ?_
    refine v_bipush o (32 : Int32) dX8_nextBlank_20 (by decide) ?_
    refine v_iload_n o dX8_nextBlank_22 rfl 2 rfl ?_
    refine v_iadd o dX8_nextBlank_23 ?_
    obtain ⟨r4, he3, h⟩ := z_bind h
    refine v_callV o yw_X1_isBlank ln_4_111 wi_X1_isBlank ws_X1_isBlank hX (by decide) 1 rfl n2 (As := [.int ((32 : Int32) + a2)]) rfl rfl (Nat.le_of_ble_eq_true rfl) (e_X1_isBlank n2 he3) dX8_nextBlank_24 ?_
    refine v_if_eq o 32 dX8_nextBlank_27 (by decide) (fun c5 => ?_) (fun c5 => ?_)
    · replace h := z_ip c5 h
      refine v_iinc o (a2 + (1 : Int32)) [(2, .int (a2 + (1 : Int32))), (0, .ref (z_w q a0)), (1, .int a1)] dX8_nextBlank_32 2 rfl rfl (by decide) rfl ?_
      refine v_goto o 7 dX8_nextBlank_35 (by decide) ?_
      obtain rfl := z_some h
      refine v_sub [1, 2, 0] rfl ?_
      exact hk
    · replace h := z_in c5 h
      obtain rfl := z_some h
      refine v_sub [2] rfl ?_
      exact hk
def f_X8_nextBlank (G : z_G) (D : z_D) (a0 : Nat) (a1 : Int32) : Option (Int32) :=
  ((z_loop (fun v => c_X8_nextBlank_7 G D a0 a1 v) 4000 ((z_I D 804 a0) + (1 : Int32))).bind (Sum.elim (fun e6 => (some e6)) (fun e6 => (some (-1 : Int32)))))
set_option maxRecDepth 100000 in
set_option maxHeartbeats 4000000 in
theorem b_X8_nextBlank {q : z_Q} {X : z_X} {G : z_G} {D : z_D} {a0 : Nat} {a1 : Int32} {r : Int32} (o : z_O q X cX8_nextBlank 3 "FlashTrust$States" "nextBlank" (some .int)) (hX : x_R X = z_rm 2 0 0) (hK0 : z_K G a0 = 108) (h : f_X8_nextBlank G D a0 a1 = some r) : z_V q X 3 (z_F q X (some (.int r)) G D 0 0) 0 0 G D 0 [(0, .ref (z_w q a0)), (1, .int a1)] [] := by
  unfold f_X8_nextBlank at h
  refine v_aload_n o dX8_nextBlank_0 rfl 0 rfl ?_
  refine gt_8_4 o hK0 ln_2_88 dX8_nextBlank_1 ?_
  refine v_iconst o (1 : Int32) dX8_nextBlank_4 (by decide) ?_
  refine v_iadd o dX8_nextBlank_5 ?_
  refine v_istore_n o [(2, .int ((z_I D 804 a0) + (1 : Int32))), (0, .ref (z_w q a0)), (1, .int a1)] dX8_nextBlank_6 rfl (by decide) rfl ?_
  refine v_sub [1, 2, 0] rfl ?_
  obtain ⟨e6, he7, h⟩ := z_bind h
  refine z_loopV (P := p_X8_nextBlank_7 q X _ G D a0 a1) (E := x_X8_nextBlank_7 q X _ G D a0 a1) (fun v ρ hb hk => tc_X8_nextBlank_7 (D := D) (a0 := a0) (a1 := a1) (a2 := v) o hX hK0 hb hk) 4000 _ e6 he7 ?_
  rcases e6 with e6 | e6
  · replace h := z_el h
    show z_V q X 3 _ _ _ G D 30 [(2, .int e6)] []
    refine v_iload_n o dX8_nextBlank_30 rfl 0 rfl ?_
    have hr := z_some h
    subst hr
    exact v_ireturn o dX8_nextBlank_31
  · replace h := z_er h
    show z_V q X 3 _ _ _ G D 38 [] []
    refine v_iconst o (-1 : Int32) dX8_nextBlank_38 (by decide) ?_
    have hr := z_some h
    subst hr
    exact v_ireturn o dX8_nextBlank_39
theorem e_X8_nextBlank {q : z_Q} {l : Launch} {G : z_G} {D : z_D} {a0 : Nat} {a1 : Int32} {r : Int32} (hK0 : z_K G a0 = 108) (h : f_X8_nextBlank G D a0 a1 = some r) : z_E q l yX8_nextBlank cX8_nextBlank 3 (some .int) 2 0 0 [.ref (z_w q a0), .int a1] G D (some (.int r)) G D :=
  z_E.of (by decide) (Nat.le_of_ble_eq_true rfl) (fun X hX _ o => b_X8_nextBlank o hX hK0 h)
def j_X8_store_45 (G : z_G) (D : z_D) (a0 : Nat) (a2 : Int32)  : Option (z_D) :=
  (f_X8_compose G D a0 ((z_I D 805 a0) + (1 : Int32))).bind (fun D6 => (z_gK G 101 (z_R G 800 a0) (z_gK G 105 (z_R G 803 a0) ((f_X1_write G D6 (z_R G 800 a0) ((32 : Int32) + a2) (z_R G 803 a0) (0 : Int32)).bind (fun D10 => ((f_X8_look G D10 a0).bind (fun D12 => ((some D12)))))))))
set_option maxRecDepth 100000 in
set_option maxHeartbeats 4000000 in
theorem tj_X8_store_45 {q : z_Q} {X : z_X} {G : z_G} {D : z_D} {a0 : Nat} {a2 : Int32}   {D1 : z_D} (o : z_O q X cX8_store 3 "FlashTrust$States" "store" none) (hX : x_R X = z_rm 3 0 0) (hK0 : z_K G a0 = 108) (h : j_X8_store_45 G D a0 a2  = some D1) : z_V q X 3 (z_F q X none G D1 0 0) 0 0 G D 45 [(0, .ref (z_w q a0)), (2, .int a2)] [] := by
  unfold j_X8_store_45 at h
  refine v_aload_n o dX8_store_45 rfl 0 rfl ?_
  refine v_aload_n o dX8_store_46 rfl 0 rfl ?_
  refine gt_8_5 o hK0 ln_2_89 dX8_store_47 ?_
  refine v_iconst o (1 : Int32) dX8_store_50 (by decide) ?_
  refine v_iadd o dX8_store_51 ?_
  obtain ⟨D6, he5, h⟩ := z_bind h
  refine v_callV o yw_X8_compose ln_2_152 wi_X8_compose ws_X8_compose hX (by decide) 8 rfl hK0 (As := [.int ((z_I D 805 a0) + (1 : Int32))]) rfl rfl (Nat.le_of_ble_eq_true rfl) (e_X8_compose hK0 he5) dX8_store_52 ?_
  refine v_aload_n o dX8_store_55 rfl 0 rfl ?_
  obtain ⟨n7, h⟩ := z_gK_of h
  refine gt_8_0 o hK0 ln_2_84 (by rw [n7]; decide) dX8_store_56 ?_
  refine v_bipush o (32 : Int32) dX8_store_59 (by decide) ?_
  refine v_iload_n o dX8_store_61 rfl 1 rfl ?_
  refine v_iadd o dX8_store_62 ?_
  refine v_aload_n o dX8_store_63 rfl 0 rfl ?_
  obtain ⟨n8, h⟩ := z_gK_of h
  refine gt_8_3 o hK0 ln_2_87 (by rw [n8]; decide) dX8_store_64 ?_
  refine v_iconst o (0 : Int32) dX8_store_67 (by decide) ?_
  obtain ⟨D10, he9, h⟩ := z_bind h
  refine v_callV o yw_X1_write ln_4_116 wi_X1_write ws_X1_write hX (by decide) 1 rfl n7 (As := [.int ((32 : Int32) + a2), .ref (z_w q (z_R G 803 a0)), .int (0 : Int32)]) rfl rfl (Nat.le_of_ble_eq_true rfl) (e_X1_write n7 he9) dX8_store_68 ?_
  refine v_aload_n o dX8_store_71 rfl 0 rfl ?_
  obtain ⟨D12, he11, h⟩ := z_bind h
  refine v_callV o yw_X8_look ln_2_178 wi_X8_look ws_X8_look hX (by decide) 8 rfl hK0 (As := []) rfl rfl (Nat.le_of_ble_eq_true rfl) (e_X8_look hK0 he11) dX8_store_72 ?_
  have hr := z_some h
  subst hr
  exact v_return o dX8_store_75
def j_X8_store_17 (G : z_G) (D : z_D) (a0 : Nat) (s0 : Int32) : Option (z_D) :=
  (f_X8_nextBlank G D a0 s0).bind (fun r3 => ((if (0 : Int32) ≤ r3 then (j_X8_store_45 G D  a0 r3) else (z_gK G 101 (z_R G 800 a0) ((f_X1_erase G D (z_R G 800 a0) ((9 : Int32) - s0)).bind (fun D15 => ((j_X8_store_45 G D15  a0 (((1 : Int32) - s0) * (4 : Int32))))))))))
set_option maxRecDepth 100000 in
set_option maxHeartbeats 4000000 in
theorem tj_X8_store_17 {q : z_Q} {X : z_X} {G : z_G} {D : z_D} {a0 : Nat} {s0 : Int32}  {D1 : z_D} (o : z_O q X cX8_store 3 "FlashTrust$States" "store" none) (hX : x_R X = z_rm 3 0 0) (hK0 : z_K G a0 = 108) (h : j_X8_store_17 G D a0 s0 = some D1) : z_V q X 3 (z_F q X none G D1 0 0) 0 0 G D 17 [(0, .ref (z_w q a0))] [.int s0] := by
  unfold j_X8_store_17 at h
  refine v_istore_n o [(1, .int s0), (0, .ref (z_w q a0))] dX8_store_17 rfl (by decide) rfl ?_
  refine v_aload_n o dX8_store_18 rfl 1 rfl ?_
  refine v_iload_n o dX8_store_19 rfl 0 rfl ?_
  obtain ⟨r3, he2, h⟩ := z_bind h
  refine v_callV o yw_X8_nextBlank ln_4_107 wi_X8_nextBlank ws_X8_nextBlank hX (by decide) 8 rfl hK0 (As := [.int s0]) rfl rfl (Nat.le_of_ble_eq_true rfl) (e_X8_nextBlank hK0 he2) dX8_store_20 ?_
  refine v_istore_n o [(2, .int r3), (1, .int s0), (0, .ref (z_w q a0))] dX8_store_23 rfl (by decide) rfl ?_
  refine v_iload_n o dX8_store_24 rfl 0 rfl ?_
  refine v_if_ge o 45 dX8_store_25 (by decide) (fun c4 => ?_) (fun c4 => ?_)
  · replace h := z_ip c4 h
    refine v_sub [2, 0] rfl ?_
    exact tj_X8_store_45 o hX hK0 h
  · replace h := z_in c4 h
    refine v_iconst o (1 : Int32) dX8_store_28 (by decide) ?_
    refine v_iload_n o dX8_store_29 rfl 1 rfl ?_
    refine v_isub o dX8_store_30 ?_
    refine v_iconst o (4 : Int32) dX8_store_31 (by decide) ?_
    refine v_imul o dX8_store_32 ?_
    refine v_istore_n o [(2, .int (((1 : Int32) - s0) * (4 : Int32))), (1, .int s0), (0, .ref (z_w q a0))] dX8_store_33 rfl (by decide) rfl ?_
    refine v_aload_n o dX8_store_34 rfl 2 rfl ?_
    obtain ⟨n13, h⟩ := z_gK_of h
    refine gt_8_0 o hK0 ln_2_84 (by rw [n13]; decide) dX8_store_35 ?_
    refine v_bipush o (9 : Int32) dX8_store_38 (by decide) ?_
    refine v_iload_n o dX8_store_40 rfl 1 rfl ?_
    refine v_isub o dX8_store_41 ?_
    obtain ⟨D15, he14, h⟩ := z_bind h
    refine v_callV o yw_X1_erase ln_4_115 wi_X1_erase ws_X1_erase hX (by decide) 1 rfl n13 (As := [.int ((9 : Int32) - s0)]) rfl rfl (Nat.le_of_ble_eq_true rfl) (e_X1_erase n13 he14) dX8_store_42 ?_
    refine v_sub [2, 0] rfl ?_
    exact tj_X8_store_45 o hX hK0 h
def f_X8_store (G : z_G) (D : z_D) (a0 : Nat) : Option (z_D) :=
  (if (0 : Int32) ≤ (z_I D 804 a0) then ((j_X8_store_17 G D  a0 ((z_I D 804 a0) / (4 : Int32)))) else ((j_X8_store_17 G D  a0 (0 : Int32))))
set_option maxRecDepth 100000 in
set_option maxHeartbeats 4000000 in
theorem b_X8_store {q : z_Q} {X : z_X} {G : z_G} {D : z_D} {a0 : Nat}  {D1 : z_D} (o : z_O q X cX8_store 3 "FlashTrust$States" "store" none) (hX : x_R X = z_rm 3 0 0) (hK0 : z_K G a0 = 108) (h : f_X8_store G D a0 = some D1) : z_V q X 3 (z_F q X none G D1 0 0) 0 0 G D 0 [(0, .ref (z_w q a0))] [] := by
  unfold f_X8_store at h
  refine v_aload_n o dX8_store_0 rfl 0 rfl ?_
  refine gt_8_4 o hK0 ln_2_88 dX8_store_1 ?_
  refine v_if_ge o 11 dX8_store_4 (by decide) (fun c1 => ?_) (fun c1 => ?_)
  · replace h := z_ip c1 h
    refine v_aload_n o dX8_store_11 rfl 0 rfl ?_
    refine gt_8_4 o hK0 ln_2_88 dX8_store_12 ?_
    refine v_iconst o (4 : Int32) dX8_store_15 (by decide) ?_
    refine v_idiv o dX8_store_16 (by decide) ?_
    exact tj_X8_store_17 o hX hK0 h
  · replace h := z_in c1 h
    refine v_iconst o (0 : Int32) dX8_store_7 (by decide) ?_
    refine v_goto o 17 dX8_store_8 (by decide) ?_
    exact tj_X8_store_17 o hX hK0 h
theorem e_X8_store {q : z_Q} {l : Launch} {G : z_G} {D : z_D} {a0 : Nat}  {D1 : z_D} (hK0 : z_K G a0 = 108) (h : f_X8_store G D a0 = some D1) : z_E q l yX8_store cX8_store 3 none 3 0 0 [.ref (z_w q a0)] G D none G D1 :=
  z_E.of (by decide) (Nat.le_of_ble_eq_true rfl) (fun X hX _ o => b_X8_store o hX hK0 h)
def f_X8_tell (G : z_G) (D : z_D) (a0 : Nat) (a1 : Int32) : Option (Int32) :=
  (if a1 = (3 : Int32) then ((some (z_I D 806 a0))) else (if a1 = (4 : Int32) then ((some (z_I D 807 a0))) else (if a1 = (5 : Int32) then ((some (z_I D 808 a0))) else (if a1 = (6 : Int32) then ((some (z_I D 810 a0))) else (if a1 = (7 : Int32) then ((some (z_I D 811 a0))) else (if a1 = (8 : Int32) then ((some (z_I D 812 a0))) else (if a1 = (9 : Int32) then ((some (z_I D 805 a0))) else ((some (-1 : Int32))))))))))
set_option maxRecDepth 100000 in
set_option maxHeartbeats 4000000 in
theorem b_X8_tell {q : z_Q} {X : z_X} {G : z_G} {D : z_D} {a0 : Nat} {a1 : Int32} {r : Int32} (o : z_O q X cX8_tell 2 "FlashTrust$States" "tell" (some .int)) (hX : x_R X = z_rm 0 0 0) (hK0 : z_K G a0 = 108) (h : f_X8_tell G D a0 a1 = some r) : z_V q X 2 (z_F q X (some (.int r)) G D 0 0) 0 0 G D 0 [(0, .ref (z_w q a0)), (1, .int a1)] [] := by
  unfold f_X8_tell at h
  refine v_iload_n o dX8_tell_0 rfl 1 rfl ?_
  by_cases c1 : a1 = (3 : Int32)
  · replace h := z_ip c1 h
    refine v_tabAt o (3 : Int32) 44 dX8_tell_1 c1 (by decide) (by decide) rfl (by decide) ?_
    refine v_aload_n o dX8_tell_44 rfl 0 rfl ?_
    refine gt_8_6 o hK0 ln_2_90 dX8_tell_45 ?_
    have hr := z_some h
    subst hr
    exact v_ireturn o dX8_tell_48
  · replace h := z_in c1 h
    by_cases c2 : a1 = (4 : Int32)
    · replace h := z_ip c2 h
      refine v_tabAt o (4 : Int32) 49 dX8_tell_1 c2 (by decide) (by decide) rfl (by decide) ?_
      refine v_aload_n o dX8_tell_49 rfl 0 rfl ?_
      refine gt_8_7 o hK0 ln_2_92 dX8_tell_50 ?_
      have hr := z_some h
      subst hr
      exact v_ireturn o dX8_tell_53
    · replace h := z_in c2 h
      by_cases c3 : a1 = (5 : Int32)
      · replace h := z_ip c3 h
        refine v_tabAt o (5 : Int32) 54 dX8_tell_1 c3 (by decide) (by decide) rfl (by decide) ?_
        refine v_aload_n o dX8_tell_54 rfl 0 rfl ?_
        refine gt_8_8 o hK0 ln_2_95 dX8_tell_55 ?_
        have hr := z_some h
        subst hr
        exact v_ireturn o dX8_tell_58
      · replace h := z_in c3 h
        by_cases c4 : a1 = (6 : Int32)
        · replace h := z_ip c4 h
          refine v_tabAt o (6 : Int32) 59 dX8_tell_1 c4 (by decide) (by decide) rfl (by decide) ?_
          refine v_aload_n o dX8_tell_59 rfl 0 rfl ?_
          refine gt_8_10 o hK0 ln_2_99 dX8_tell_60 ?_
          have hr := z_some h
          subst hr
          exact v_ireturn o dX8_tell_63
        · replace h := z_in c4 h
          by_cases c5 : a1 = (7 : Int32)
          · replace h := z_ip c5 h
            refine v_tabAt o (7 : Int32) 64 dX8_tell_1 c5 (by decide) (by decide) rfl (by decide) ?_
            refine v_aload_n o dX8_tell_64 rfl 0 rfl ?_
            refine gt_8_11 o hK0 ln_2_102 dX8_tell_65 ?_
            have hr := z_some h
            subst hr
            exact v_ireturn o dX8_tell_68
          · replace h := z_in c5 h
            by_cases c6 : a1 = (8 : Int32)
            · replace h := z_ip c6 h
              refine v_tabAt o (8 : Int32) 69 dX8_tell_1 c6 (by decide) (by decide) rfl (by decide) ?_
              refine v_aload_n o dX8_tell_69 rfl 0 rfl ?_
              refine gt_8_12 o hK0 ln_2_105 dX8_tell_70 ?_
              have hr := z_some h
              subst hr
              exact v_ireturn o dX8_tell_73
            · replace h := z_in c6 h
              by_cases c7 : a1 = (9 : Int32)
              · replace h := z_ip c7 h
                refine v_tabAt o (9 : Int32) 74 dX8_tell_1 c7 (by decide) (by decide) rfl (by decide) ?_
                refine v_aload_n o dX8_tell_74 rfl 0 rfl ?_
                refine gt_8_5 o hK0 ln_2_89 dX8_tell_75 ?_
                have hr := z_some h
                subst hr
                exact v_ireturn o dX8_tell_78
              · replace h := z_in c7 h
                refine v_tabOut o 79 dX8_tell_1 ?_ (by decide) ?_
                · by_cases hl : (a1).toInt < 3
                  · exact Or.inl hl
                  · by_cases hu : 9 < (a1).toInt
                    · exact Or.inr hu
                    · exfalso
                      have hh : (a1).toInt = 3 ∨ (a1).toInt = 4 ∨ (a1).toInt = 5 ∨ (a1).toInt = 6 ∨ (a1).toInt = 7 ∨ (a1).toInt = 8 ∨ (a1).toInt = 9 := by omega
                      rcases hh with hh | hh | hh | hh | hh | hh | hh
                      · exact c1 (z_i32 hh (by decide))
                      · exact c2 (z_i32 hh (by decide))
                      · exact c3 (z_i32 hh (by decide))
                      · exact c4 (z_i32 hh (by decide))
                      · exact c5 (z_i32 hh (by decide))
                      · exact c6 (z_i32 hh (by decide))
                      · exact c7 (z_i32 hh (by decide))
                · refine v_iconst o (-1 : Int32) dX8_tell_79 (by decide) ?_
                  have hr := z_some h
                  subst hr
                  exact v_ireturn o dX8_tell_80
theorem e_X8_tell {q : z_Q} {l : Launch} {G : z_G} {D : z_D} {a0 : Nat} {a1 : Int32} {r : Int32} (hK0 : z_K G a0 = 108) (h : f_X8_tell G D a0 a1 = some r) : z_E q l yX8_tell cX8_tell 2 (some .int) 0 0 0 [.ref (z_w q a0), .int a1] G D (some (.int r)) G D :=
  z_E.of (by decide) (Nat.le_of_ble_eq_true rfl) (fun X hX _ o => b_X8_tell o hX hK0 h)
