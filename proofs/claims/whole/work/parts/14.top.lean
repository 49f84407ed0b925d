def f_X10_feed (G : z_G) (D : z_D) (a0 : Nat) (a1 : Int32) (a2 : Int32) (a3 : Int32) (a4 : Int32) (a5 : Int32) : Option (Int32 × z_D) :=
  z_gK G 105 (z_R G 1000 a0) ((f_X5_size G D (z_R G 1000 a0)).bind (fun r3 => ((if (r3 + (20 : Int32)) ≤ (300 : Int32) then ((f_X5_addNumber G D (z_R G 1000 a0) ((a1).toInt64) (4 : Int32)).bind (fun D6 => ((f_X5_addNumber G D6 (z_R G 1000 a0) ((a2).toInt64) (4 : Int32)).bind (fun D8 => ((f_X5_addNumber G D8 (z_R G 1000 a0) ((a3).toInt64) (4 : Int32)).bind (fun D10 => ((f_X5_addNumber G D10 (z_R G 1000 a0) ((a4).toInt64) (4 : Int32)).bind (fun D12 => ((f_X5_addNumber G D12 (z_R G 1000 a0) ((a5).toInt64) (4 : Int32)).bind (fun D14 => ((f_X5_size G D14 (z_R G 1000 a0)).bind (fun r16 => ((some (r16, D14))))))))))))))) else ((some ((-5 : Int32), D)))))))
set_option maxRecDepth 100000 in
set_option maxHeartbeats 4000000 in
theorem b_X10_feed {q : z_Q} {X : z_X} {G : z_G} {D : z_D} {a0 : Nat} {a1 : Int32} {a2 : Int32} {a3 : Int32} {a4 : Int32} {a5 : Int32} {r : Int32} {D1 : z_D} (o : z_O q X cX10_feed 6 "FlashTrust" "feed" (some .int)) (hX : x_R X = z_rm 2 0 0) (hK0 : z_K G a0 = 110) (h : f_X10_feed G D a0 a1 a2 a3 a4 a5 = some (r, D1)) : z_V q X 6 (z_F q X (some (.int r)) G D1 0 0) 0 0 G D 0 [(0, .ref (z_w q a0)), (1, .int a1), (2, .int a2), (3, .int a3), (4, .int a4), (5, .int a5)] [] := by
  unfold f_X10_feed at h
  refine v_aload_n o dX10_feed_0 rfl 0 rfl ?_
  obtain ⟨n1, h⟩ := z_gK_of h
  refine gt_10_0 o hK0 ln_3_27 (by rw [n1]; decide) dX10_feed_1 ?_
  obtain ⟨r3, he2, h⟩ := z_bind h
  refine v_callV o yw_X5_size ln_3_53 wi_X5_size ws_X5_size hX (by decide) 5 rfl n1 (As := []) rfl rfl (Nat.le_of_ble_eq_true rfl) (e_X5_size n1 he2) dX10_feed_4 ?_
  refine v_bipush o (20 : Int32) dX10_feed_7 (by decide) ?_
  refine v_iadd o dX10_feed_9 ?_
  refine v_sipush o (300 : Int32) dX10_feed_10 (by decide) ?_
  refine v_icmp_le o 19 dX10_feed_13 (by decide) (fun c4 => ?_) (fun c4 => ?_)
  · replace h := z_ip c4 h
    refine v_aload_n o dX10_feed_19 rfl 0 rfl ?_
    refine gt_10_0 o hK0 ln_3_27 (by rw [n1]; decide) dX10_feed_20 ?_
    refine v_iload_n o dX10_feed_23 rfl 1 rfl ?_
    refine v_i2l o dX10_feed_24 ?_
    refine v_iconst o (4 : Int32) dX10_feed_25 (by decide) ?_
    obtain ⟨D6, he5, h⟩ := z_bind h
    refine v_callV o yw_X5_addNumber ln_3_57 wi_X5_addNumber ws_X5_addNumber hX (by decide) 5 rfl n1 (As := [.long (a1).toInt64, .int (4 : Int32)]) rfl rfl (Nat.le_of_ble_eq_true rfl) (e_X5_addNumber n1 he5) dX10_feed_26 ?_
    refine v_aload_n o dX10_feed_29 rfl 0 rfl ?_
    refine gt_10_0 o hK0 ln_3_27 (by rw [n1]; decide) dX10_feed_30 ?_
    refine v_iload_n o dX10_feed_33 rfl 2 rfl ?_
    refine v_i2l o dX10_feed_34 ?_
    refine v_iconst o (4 : Int32) dX10_feed_35 (by decide) ?_
    obtain ⟨D8, he7, h⟩ := z_bind h
    refine v_callV o yw_X5_addNumber ln_3_57 wi_X5_addNumber ws_X5_addNumber hX (by decide) 5 rfl n1 (As := [.long (a2).toInt64, .int (4 : Int32)]) rfl rfl (Nat.le_of_ble_eq_true rfl) (e_X5_addNumber n1 he7) dX10_feed_36 ?_
    refine v_aload_n o dX10_feed_39 rfl 0 rfl ?_
    refine gt_10_0 o hK0 ln_3_27 (by rw [n1]; decide) dX10_feed_40 ?_
    refine v_iload_n o dX10_feed_43 rfl 3 rfl ?_
    refine v_i2l o dX10_feed_44 ?_
    refine v_iconst o (4 : Int32) dX10_feed_45 (by decide) ?_
    obtain ⟨D10, he9, h⟩ := z_bind h
    refine v_callV o yw_X5_addNumber ln_3_57 wi_X5_addNumber ws_X5_addNumber hX (by decide) 5 rfl n1 (As := [.long (a3).toInt64, .int (4 : Int32)]) rfl rfl (Nat.le_of_ble_eq_true rfl) (e_X5_addNumber n1 he9) dX10_feed_46 ?_
    refine v_aload_n o dX10_feed_49 rfl 0 rfl ?_
    refine gt_10_0 o hK0 ln_3_27 (by rw [n1]; decide) dX10_feed_50 ?_
    refine v_iload o dX10_feed_53 4 rfl ?_
    refine v_i2l o dX10_feed_55 ?_
    refine v_iconst o (4 : Int32) dX10_feed_56 (by decide) ?_
    obtain ⟨D12, he11, h⟩ := z_bind h
    refine v_callV o yw_X5_addNumber ln_3_57 wi_X5_addNumber ws_X5_addNumber hX (by decide) 5 rfl n1 (As := [.long (a4).toInt64, .int (4 : Int32)]) rfl rfl (Nat.le_of_ble_eq_true rfl) (e_X5_addNumber n1 he11) dX10_feed_57 ?_
    refine v_aload_n o dX10_feed_60 rfl 0 rfl ?_
    refine gt_10_0 o hK0 ln_3_27 (by rw [n1]; decide) dX10_feed_61 ?_
    refine v_iload o dX10_feed_64 5 rfl ?_
    refine v_i2l o dX10_feed_66 ?_
    refine v_iconst o (4 : Int32) dX10_feed_67 (by decide) ?_
    obtain ⟨D14, he13, h⟩ := z_bind h
    refine v_callV o yw_X5_addNumber ln_3_57 wi_X5_addNumber ws_X5_addNumber hX (by decide) 5 rfl n1 (As := [.long (a5).toInt64, .int (4 : Int32)]) rfl rfl (Nat.le_of_ble_eq_true rfl) (e_X5_addNumber n1 he13) dX10_feed_68 ?_
    refine v_aload_n o dX10_feed_71 rfl 0 rfl ?_
    refine gt_10_0 o hK0 ln_3_27 (by rw [n1]; decide) dX10_feed_72 ?_
    obtain ⟨r16, he15, h⟩ := z_bind h
    refine v_callV o yw_X5_size ln_3_53 wi_X5_size ws_X5_size hX (by decide) 5 rfl n1 (As := []) rfl rfl (Nat.le_of_ble_eq_true rfl) (e_X5_size n1 he15) dX10_feed_75 ?_
    obtain ⟨hr, hs⟩ := Prod.mk.inj (z_some h)
    subst hr
    subst hs
    exact v_ireturn o dX10_feed_78
  · replace h := z_in c4 h
    refine v_bipush o (-5 : Int32) dX10_feed_16 (by decide) ?_
    obtain ⟨hr, hs⟩ := Prod.mk.inj (z_some h)
    subst hr
    subst hs
    exact v_ireturn o dX10_feed_18
theorem e_X10_feed {q : z_Q} {l : Launch} {G : z_G} {D : z_D} {a0 : Nat} {a1 : Int32} {a2 : Int32} {a3 : Int32} {a4 : Int32} {a5 : Int32} {r : Int32} {D1 : z_D} (hK0 : z_K G a0 = 110) (h : f_X10_feed G D a0 a1 a2 a3 a4 a5 = some (r, D1)) : z_E q l yX10_feed cX10_feed 6 (some .int) 2 0 0 [.ref (z_w q a0), .int a1, .int a2, .int a3, .int a4, .int a5] G D (some (.int r)) G D1 :=
  z_E.of (by decide) (Nat.le_of_ble_eq_true rfl) (fun X hX _ o => b_X10_feed o hX hK0 h)
def f_X10_end (G : z_G) (D : z_D) (a0 : Nat) (a1 : Int32) : Option (Int32 × z_D) :=
  (if a1 < (0 : Int32) then ((some ((-1 : Int32), D))) else ((if (20 : Int32) < a1 then ((some ((-1 : Int32), D))) else (z_gK G 105 (z_R G 1000 a0) ((f_X5_size G D (z_R G 1000 a0)).bind (fun r5 => ((if (20 : Int32) ≤ r5 then ((f_X5_shorten G D (z_R G 1000 a0) ((20 : Int32) - a1)).bind (fun D8 => ((f_X5_size G D8 (z_R G 1000 a0)).bind (fun r10 => ((some (r10, D8))))))) else ((some ((-1 : Int32), D)))))))))))
set_option maxRecDepth 100000 in
set_option maxHeartbeats 4000000 in
theorem b_X10_end {q : z_Q} {X : z_X} {G : z_G} {D : z_D} {a0 : Nat} {a1 : Int32} {r : Int32} {D1 : z_D} (o : z_O q X cX10_end 2 "FlashTrust" "end" (some .int)) (hX : x_R X = z_rm 2 0 0) (hK0 : z_K G a0 = 110) (h : f_X10_end G D a0 a1 = some (r, D1)) : z_V q X 2 (z_F q X (some (.int r)) G D1 0 0) 0 0 G D 0 [(0, .ref (z_w q a0)), (1, .int a1)] [] := by
  unfold f_X10_end at h
  refine v_iload_n o dX10_end_0 rfl 1 rfl ?_
  refine v_if_lt o 22 dX10_end_1 (by decide) (fun c1 => ?_) (fun c1 => ?_)
  · replace h := z_ip c1 h
    refine v_iconst o (-1 : Int32) dX10_end_22 (by decide) ?_
    obtain ⟨hr, hs⟩ := Prod.mk.inj (z_some h)
    subst hr
    subst hs
    exact v_ireturn o dX10_end_23
  · replace h := z_in c1 h
    refine v_iload_n o dX10_end_4 rfl 1 rfl ?_
    refine v_bipush o (20 : Int32) dX10_end_5 (by decide) ?_
    refine v_icmp_gt o 22 dX10_end_7 (by decide) (fun c2 => ?_) (fun c2 => ?_)
    · replace h := z_ip c2 h
      refine v_iconst o (-1 : Int32) dX10_end_22 (by decide) ?_
      obtain ⟨hr, hs⟩ := Prod.mk.inj (z_some h)
      subst hr
      subst hs
      exact v_ireturn o dX10_end_23
    · replace h := z_in c2 h
      refine v_aload_n o dX10_end_10 rfl 0 rfl ?_
      obtain ⟨n3, h⟩ := z_gK_of h
      refine gt_10_0 o hK0 ln_3_27 (by rw [n3]; decide) dX10_end_11 ?_
      obtain ⟨r5, he4, h⟩ := z_bind h
      refine v_callV o yw_X5_size ln_3_53 wi_X5_size ws_X5_size hX (by decide) 5 rfl n3 (As := []) rfl rfl (Nat.le_of_ble_eq_true rfl) (e_X5_size n3 he4) dX10_end_14 ?_
      refine v_bipush o (20 : Int32) dX10_end_17 (by decide) ?_
      refine v_icmp_ge o 24 dX10_end_19 (by decide) (fun c6 => ?_) (fun c6 => ?_)
      · replace h := z_ip c6 h
        refine v_aload_n o dX10_end_24 rfl 0 rfl ?_
        refine gt_10_0 o hK0 ln_3_27 (by rw [n3]; decide) dX10_end_25 ?_
        refine v_bipush o (20 : Int32) dX10_end_28 (by decide) ?_
        refine v_iload_n o dX10_end_30 rfl 1 rfl ?_
        refine v_isub o dX10_end_31 ?_
        obtain ⟨D8, he7, h⟩ := z_bind h
        refine v_callV o yw_X5_shorten ln_3_62 wi_X5_shorten ws_X5_shorten hX (by decide) 5 rfl n3 (As := [.int ((20 : Int32) - a1)]) rfl rfl (Nat.le_of_ble_eq_true rfl) (e_X5_shorten n3 he7) dX10_end_32 ?_
        refine v_aload_n o dX10_end_35 rfl 0 rfl ?_
        refine gt_10_0 o hK0 ln_3_27 (by rw [n3]; decide) dX10_end_36 ?_
        obtain ⟨r10, he9, h⟩ := z_bind h
        refine v_callV o yw_X5_size ln_3_53 wi_X5_size ws_X5_size hX (by decide) 5 rfl n3 (As := []) rfl rfl (Nat.le_of_ble_eq_true rfl) (e_X5_size n3 he9) dX10_end_39 ?_
        obtain ⟨hr, hs⟩ := Prod.mk.inj (z_some h)
        subst hr
        subst hs
        exact v_ireturn o dX10_end_42
      · replace h := z_in c6 h
        refine v_iconst o (-1 : Int32) dX10_end_22 (by decide) ?_
        obtain ⟨hr, hs⟩ := Prod.mk.inj (z_some h)
        subst hr
        subst hs
        exact v_ireturn o dX10_end_23
theorem e_X10_end {q : z_Q} {l : Launch} {G : z_G} {D : z_D} {a0 : Nat} {a1 : Int32} {r : Int32} {D1 : z_D} (hK0 : z_K G a0 = 110) (h : f_X10_end G D a0 a1 = some (r, D1)) : z_E q l yX10_end cX10_end 2 (some .int) 2 0 0 [.ref (z_w q a0), .int a1] G D (some (.int r)) G D1 :=
  z_E.of (by decide) (Nat.le_of_ble_eq_true rfl) (fun X hX _ o => b_X10_end o hX hK0 h)
def f_X10_byteOf (G : z_G) (D : z_D) (a0 : Nat) (a1 : Int32) : Option (Int32) :=
  z_gK G 105 (z_R G 1000 a0) ((f_X5_has G D (z_R G 1000 a0) a1).bind (fun r3 => ((if r3 = (0 : Int32) then ((some (-1 : Int32))) else ((f_X5_at G D (z_R G 1000 a0) a1).bind (fun r6 => (((some r6)))))))))
set_option maxRecDepth 100000 in
set_option maxHeartbeats 4000000 in
theorem b_X10_byteOf {q : z_Q} {X : z_X} {G : z_G} {D : z_D} {a0 : Nat} {a1 : Int32} {r : Int32} (o : z_O q X cX10_byteOf 2 "FlashTrust" "byteOf" (some .int)) (hX : x_R X = z_rm 1 0 0) (hK0 : z_K G a0 = 110) (h : f_X10_byteOf G D a0 a1 = some r) : z_V q X 2 (z_F q X (some (.int r)) G D 0 0) 0 0 G D 0 [(0, .ref (z_w q a0)), (1, .int a1)] [] := by
  unfold f_X10_byteOf at h
  refine v_aload_n o dX10_byteOf_0 rfl 0 rfl ?_
  obtain ⟨n1, h⟩ := z_gK_of h
  refine gt_10_0 o hK0 ln_3_27 (by rw [n1]; decide) dX10_byteOf_1 ?_
  refine v_iload_n o dX10_byteOf_4 rfl 1 rfl ?_
  obtain ⟨r3, he2, h⟩ := z_bind h
  refine v_callV o yw_X5_has ln_3_70 wi_X5_has ws_X5_has hX (by decide) 5 rfl n1 (As := [.int a1]) rfl rfl (Nat.le_of_ble_eq_true rfl) (e_X5_has n1 he2) dX10_byteOf_5 ?_
  refine v_if_eq o 22 dX10_byteOf_8 (by decide) (fun c4 => ?_) (fun c4 => ?_)
  · replace h := z_ip c4 h
    refine v_iconst o (-1 : Int32) dX10_byteOf_22 (by decide) ?_
    have hr := z_some h
    subst hr
    exact v_ireturn o dX10_byteOf_23
  · replace h := z_in c4 h
    refine v_aload_n o dX10_byteOf_11 rfl 0 rfl ?_
    refine gt_10_0 o hK0 ln_3_27 (by rw [n1]; decide) dX10_byteOf_12 ?_
    refine v_iload_n o dX10_byteOf_15 rfl 1 rfl ?_
    obtain ⟨r6, he5, h⟩ := z_bind h
    refine v_callV o yw_X5_at ln_3_74 wi_X5_at ws_X5_at hX (by decide) 5 rfl n1 (As := [.int a1]) rfl rfl (Nat.le_of_ble_eq_true rfl) (e_X5_at n1 he5) dX10_byteOf_16 ?_
    refine v_goto o 23 dX10_byteOf_19 (by decide) ?_
    have hr := z_some h
    subst hr
    exact v_ireturn o dX10_byteOf_23
theorem e_X10_byteOf {q : z_Q} {l : Launch} {G : z_G} {D : z_D} {a0 : Nat} {a1 : Int32} {r : Int32} (hK0 : z_K G a0 = 110) (h : f_X10_byteOf G D a0 a1 = some r) : z_E q l yX10_byteOf cX10_byteOf 2 (some .int) 1 0 0 [.ref (z_w q a0), .int a1] G D (some (.int r)) G D :=
  z_E.of (by decide) (Nat.le_of_ble_eq_true rfl) (fun X hX _ o => b_X10_byteOf o hX hK0 h)
def f_X10_plan (G : z_G) (D : z_D) (a0 : Nat) (a1 : Int32) (a2 : Int32) (a3 : Int32) : Option (Int32 × z_D) :=
  z_gK G 103 (z_R G 1001 a0) ((f_X3_planRole G D (z_R G 1001 a0) a1 a2 a3).bind (fun p3 => ((some (p3.1, p3.2)))))
set_option maxRecDepth 100000 in
set_option maxHeartbeats 4000000 in
theorem b_X10_plan {q : z_Q} {X : z_X} {G : z_G} {D : z_D} {a0 : Nat} {a1 : Int32} {a2 : Int32} {a3 : Int32} {r : Int32} {D1 : z_D} (o : z_O q X cX10_plan 4 "FlashTrust" "plan" (some .int)) (hX : x_R X = z_rm 2 0 0) (hK0 : z_K G a0 = 110) (h : f_X10_plan G D a0 a1 a2 a3 = some (r, D1)) : z_V q X 4 (z_F q X (some (.int r)) G D1 0 0) 0 0 G D 0 [(0, .ref (z_w q a0)), (1, .int a1), (2, .int a2), (3, .int a3)] [] := by
  unfold f_X10_plan at h
  refine v_aload_n o dX10_plan_0 rfl 0 rfl ?_
  obtain ⟨n1, h⟩ := z_gK_of h
  refine gt_10_1 o hK0 ln_3_28 (by rw [n1]; decide) dX10_plan_1 ?_
  refine v_iload_n o dX10_plan_4 rfl 1 rfl ?_
  refine v_iload_n o dX10_plan_5 rfl 2 rfl ?_
  refine v_iload_n o dX10_plan_6 rfl 3 rfl ?_
  obtain ⟨p3, he2, h⟩ := z_bind h
  refine v_callV o yw_X3_planRole ln_3_79 wi_X3_planRole ws_X3_planRole hX (by decide) 3 rfl n1 (As := [.int a1, .int a2, .int a3]) rfl rfl (Nat.le_of_ble_eq_true rfl) (e_X3_planRole n1 he2) dX10_plan_7 ?_
  obtain ⟨hr, hs⟩ := Prod.mk.inj (z_some h)
  subst hr
  subst hs
  exact v_ireturn o dX10_plan_10
theorem e_X10_plan {q : z_Q} {l : Launch} {G : z_G} {D : z_D} {a0 : Nat} {a1 : Int32} {a2 : Int32} {a3 : Int32} {r : Int32} {D1 : z_D} (hK0 : z_K G a0 = 110) (h : f_X10_plan G D a0 a1 a2 a3 = some (r, D1)) : z_E q l yX10_plan cX10_plan 4 (some .int) 2 0 0 [.ref (z_w q a0), .int a1, .int a2, .int a3] G D (some (.int r)) G D1 :=
  z_E.of (by decide) (Nat.le_of_ble_eq_true rfl) (fun X hX _ o => b_X10_plan o hX hK0 h)
def f_X10_image (G : z_G) (D : z_D) (a0 : Nat) (a1 : Int32) (a2 : Int32) (a3 : Int32) : Option (Int32 × z_D) :=
  z_gK G 103 (z_R G 1001 a0) ((f_X3_addImage G D (z_R G 1001 a0) a1 a2 a3).bind (fun p3 => ((some (p3.1, p3.2)))))
set_option maxRecDepth 100000 in
set_option maxHeartbeats 4000000 in
theorem b_X10_image {q : z_Q} {X : z_X} {G : z_G} {D : z_D} {a0 : Nat} {a1 : Int32} {a2 : Int32} {a3 : Int32} {r : Int32} {D1 : z_D} (o : z_O q X cX10_image 4 "FlashTrust" "image" (some .int)) (hX : x_R X = z_rm 3 0 0) (hK0 : z_K G a0 = 110) (h : f_X10_image G D a0 a1 a2 a3 = some (r, D1)) : z_V q X 4 (z_F q X (some (.int r)) G D1 0 0) 0 0 G D 0 [(0, .ref (z_w q a0)), (1, .int a1), (2, .int a2), (3, .int a3)] [] := by
  unfold f_X10_image at h
  refine v_aload_n o dX10_image_0 rfl 0 rfl ?_
  obtain ⟨n1, h⟩ := z_gK_of h
  refine gt_10_1 o hK0 ln_3_28 (by rw [n1]; decide) dX10_image_1 ?_
  refine v_iload_n o dX10_image_4 rfl 1 rfl ?_
  refine v_iload_n o dX10_image_5 rfl 2 rfl ?_
  refine v_iload_n o dX10_image_6 rfl 3 rfl ?_
  obtain ⟨p3, he2, h⟩ := z_bind h
  refine v_callV o yw_X3_addImage ln_3_94 wi_X3_addImage ws_X3_addImage hX (by decide) 3 rfl n1 (As := [.int a1, .int a2, .int a3]) rfl rfl (Nat.le_of_ble_eq_true rfl) (e_X3_addImage n1 he2) dX10_image_7 ?_
  obtain ⟨hr, hs⟩ := Prod.mk.inj (z_some h)
  subst hr
  subst hs
  exact v_ireturn o dX10_image_10
theorem e_X10_image {q : z_Q} {l : Launch} {G : z_G} {D : z_D} {a0 : Nat} {a1 : Int32} {a2 : Int32} {a3 : Int32} {r : Int32} {D1 : z_D} (hK0 : z_K G a0 = 110) (h : f_X10_image G D a0 a1 a2 a3 = some (r, D1)) : z_E q l yX10_image cX10_image 4 (some .int) 3 0 0 [.ref (z_w q a0), .int a1, .int a2, .int a3] G D (some (.int r)) G D1 :=
  z_E.of (by decide) (Nat.le_of_ble_eq_true rfl) (fun X hX _ o => b_X10_image o hX hK0 h)
def f_X10_clear (G : z_G) (D : z_D) (a0 : Nat) : Option (Int32 × z_D) :=
  z_gK G 103 (z_R G 1001 a0) ((f_X3_dropImages G D (z_R G 1001 a0)).bind (fun p3 => ((some (p3.1, p3.2)))))
set_option maxRecDepth 100000 in
set_option maxHeartbeats 4000000 in
theorem b_X10_clear {q : z_Q} {X : z_X} {G : z_G} {D : z_D} {a0 : Nat} {r : Int32} {D1 : z_D} (o : z_O q X cX10_clear 1 "FlashTrust" "clear" (some .int)) (hX : x_R X = z_rm 1 0 0) (hK0 : z_K G a0 = 110) (h : f_X10_clear G D a0 = some (r, D1)) : z_V q X 1 (z_F q X (some (.int r)) G D1 0 0) 0 0 G D 0 [(0, .ref (z_w q a0))] [] := by
  unfold f_X10_clear at h
  refine v_aload_n o dX10_clear_0 rfl 0 rfl ?_
  obtain ⟨n1, h⟩ := z_gK_of h
  refine gt_10_1 o hK0 ln_3_28 (by rw [n1]; decide) dX10_clear_1 ?_
  obtain ⟨p3, he2, h⟩ := z_bind h
  refine v_callV o yw_X3_dropImages ln_3_110 wi_X3_dropImages ws_X3_dropImages hX (by decide) 3 rfl n1 (As := []) rfl rfl (Nat.le_of_ble_eq_true rfl) (e_X3_dropImages n1 he2) dX10_clear_4 ?_
  obtain ⟨hr, hs⟩ := Prod.mk.inj (z_some h)
  subst hr
  subst hs
  exact v_ireturn o dX10_clear_7
theorem e_X10_clear {q : z_Q} {l : Launch} {G : z_G} {D : z_D} {a0 : Nat} {r : Int32} {D1 : z_D} (hK0 : z_K G a0 = 110) (h : f_X10_clear G D a0 = some (r, D1)) : z_E q l yX10_clear cX10_clear 1 (some .int) 1 0 0 [.ref (z_w q a0)] G D (some (.int r)) G D1 :=
  z_E.of (by decide) (Nat.le_of_ble_eq_true rfl) (fun X hX _ o => b_X10_clear o hX hK0 h)
def f_X10_draft (G : z_G) (D : z_D) (a0 : Nat) (a1 : Int32) (a2 : Int32) (a3 : Int32) : Option (Int32 × z_D) :=
  z_gK G 103 (z_R G 1001 a0) ((f_X3_compose G D (z_R G 1001 a0) a1 a2 a3).bind (fun p3 => ((some (p3.1, p3.2)))))
set_option maxRecDepth 100000 in
set_option maxHeartbeats 4000000 in
theorem b_X10_draft {q : z_Q} {X : z_X} {G : z_G} {D : z_D} {a0 : Nat} {a1 : Int32} {a2 : Int32} {a3 : Int32} {r : Int32} {D1 : z_D} (o : z_O q X cX10_draft 4 "FlashTrust" "draft" (some .int)) (hX : x_R X = z_rm 4 0 0) (hK0 : z_K G a0 = 110) (h : f_X10_draft G D a0 a1 a2 a3 = some (r, D1)) : z_V q X 4 (z_F q X (some (.int r)) G D1 0 0) 0 0 G D 0 [(0, .ref (z_w q a0)), (1, .int a1), (2, .int a2), (3, .int a3)] [] := by
  unfold f_X10_draft at h
  refine v_aload_n o dX10_draft_0 rfl 0 rfl ?_
  obtain ⟨n1, h⟩ := z_gK_of h
  refine gt_10_1 o hK0 ln_3_28 (by rw [n1]; decide) dX10_draft_1 ?_
  refine v_iload_n o dX10_draft_4 rfl 1 rfl ?_
  refine v_iload_n o dX10_draft_5 rfl 2 rfl ?_
  refine v_iload_n o dX10_draft_6 rfl 3 rfl ?_
  obtain ⟨p3, he2, h⟩ := z_bind h
  refine v_callV o yw_X3_compose ln_3_118 wi_X3_compose ws_X3_compose hX (by decide) 3 rfl n1 (As := [.int a1, .int a2, .int a3]) rfl rfl (Nat.le_of_ble_eq_true rfl) (e_X3_compose n1 he2) dX10_draft_7 ?_
  obtain ⟨hr, hs⟩ := Prod.mk.inj (z_some h)
  subst hr
  subst hs
  exact v_ireturn o dX10_draft_10
theorem e_X10_draft {q : z_Q} {l : Launch} {G : z_G} {D : z_D} {a0 : Nat} {a1 : Int32} {a2 : Int32} {a3 : Int32} {r : Int32} {D1 : z_D} (hK0 : z_K G a0 = 110) (h : f_X10_draft G D a0 a1 a2 a3 = some (r, D1)) : z_E q l yX10_draft cX10_draft 4 (some .int) 4 0 0 [.ref (z_w q a0), .int a1, .int a2, .int a3] G D (some (.int r)) G D1 :=
  z_E.of (by decide) (Nat.le_of_ble_eq_true rfl) (fun X hX _ o => b_X10_draft o hX hK0 h)
def f_X10_sign (G : z_G) (D : z_D) (a0 : Nat) (a1 : Int32) : Option (Int32 × z_D) :=
  z_gK G 103 (z_R G 1001 a0) ((f_X3_addKey G D (z_R G 1001 a0) a1).bind (fun p3 => ((some (p3.1, p3.2)))))
set_option maxRecDepth 100000 in
set_option maxHeartbeats 4000000 in
theorem b_X10_sign {q : z_Q} {X : z_X} {G : z_G} {D : z_D} {a0 : Nat} {a1 : Int32} {r : Int32} {D1 : z_D} (o : z_O q X cX10_sign 2 "FlashTrust" "sign" (some .int)) (hX : x_R X = z_rm 3 0 0) (hK0 : z_K G a0 = 110) (h : f_X10_sign G D a0 a1 = some (r, D1)) : z_V q X 2 (z_F q X (some (.int r)) G D1 0 0) 0 0 G D 0 [(0, .ref (z_w q a0)), (1, .int a1)] [] := by
  unfold f_X10_sign at h
  refine v_aload_n o dX10_sign_0 rfl 0 rfl ?_
  obtain ⟨n1, h⟩ := z_gK_of h
  refine gt_10_1 o hK0 ln_3_28 (by rw [n1]; decide) dX10_sign_1 ?_
  refine v_iload_n o dX10_sign_4 rfl 1 rfl ?_
  obtain ⟨p3, he2, h⟩ := z_bind h
  refine v_callV o yw_X3_addKey ln_3_141 wi_X3_addKey ws_X3_addKey hX (by decide) 3 rfl n1 (As := [.int a1]) rfl rfl (Nat.le_of_ble_eq_true rfl) (e_X3_addKey n1 he2) dX10_sign_5 ?_
  obtain ⟨hr, hs⟩ := Prod.mk.inj (z_some h)
  subst hr
  subst hs
  exact v_ireturn o dX10_sign_8
theorem e_X10_sign {q : z_Q} {l : Launch} {G : z_G} {D : z_D} {a0 : Nat} {a1 : Int32} {r : Int32} {D1 : z_D} (hK0 : z_K G a0 = 110) (h : f_X10_sign G D a0 a1 = some (r, D1)) : z_E q l yX10_sign cX10_sign 2 (some .int) 3 0 0 [.ref (z_w q a0), .int a1] G D (some (.int r)) G D1 :=
  z_E.of (by decide) (Nat.le_of_ble_eq_true rfl) (fun X hX _ o => b_X10_sign o hX hK0 h)
def f_X10_show (G : z_G) (D : z_D) (a0 : Nat) : Option (Int32 × z_D) :=
  z_gK G 103 (z_R G 1001 a0) (z_gK G 105 (z_R G 1000 a0) ((f_X3_copyDraft G D (z_R G 1001 a0) (z_R G 1000 a0)).bind (fun p4 => ((some (p4.1, p4.2))))))
set_option maxRecDepth 100000 in
set_option maxHeartbeats 4000000 in
theorem b_X10_show {q : z_Q} {X : z_X} {G : z_G} {D : z_D} {a0 : Nat} {r : Int32} {D1 : z_D} (o : z_O q X cX10_show 1 "FlashTrust" "show" (some .int)) (hX : x_R X = z_rm 3 0 0) (hK0 : z_K G a0 = 110) (h : f_X10_show G D a0 = some (r, D1)) : z_V q X 1 (z_F q X (some (.int r)) G D1 0 0) 0 0 G D 0 [(0, .ref (z_w q a0))] [] := by
  unfold f_X10_show at h
  refine v_aload_n o dX10_show_0 rfl 0 rfl ?_
  obtain ⟨n1, h⟩ := z_gK_of h
  refine gt_10_1 o hK0 ln_3_28 (by rw [n1]; decide) dX10_show_1 ?_
  refine v_aload_n o dX10_show_4 rfl 0 rfl ?_
  obtain ⟨n2, h⟩ := z_gK_of h
  refine gt_10_0 o hK0 ln_3_27 (by rw [n2]; decide) dX10_show_5 ?_
  obtain ⟨p4, he3, h⟩ := z_bind h
  refine v_callV o yw_X3_copyDraft ln_3_157 wi_X3_copyDraft ws_X3_copyDraft hX (by decide) 3 rfl n1 (As := [.ref (z_w q (z_R G 1000 a0))]) rfl rfl (Nat.le_of_ble_eq_true rfl) (e_X3_copyDraft n1 he3) dX10_show_8 ?_
  obtain ⟨hr, hs⟩ := Prod.mk.inj (z_some h)
  subst hr
  subst hs
  exact v_ireturn o dX10_show_11
theorem e_X10_show {q : z_Q} {l : Launch} {G : z_G} {D : z_D} {a0 : Nat} {r : Int32} {D1 : z_D} (hK0 : z_K G a0 = 110) (h : f_X10_show G D a0 = some (r, D1)) : z_E q l yX10_show cX10_show 1 (some .int) 3 0 0 [.ref (z_w q a0)] G D (some (.int r)) G D1 :=
  z_E.of (by decide) (Nat.le_of_ble_eq_true rfl) (fun X hX _ o => b_X10_show o hX hK0 h)
def f_X10_piece (G : z_G) (D : z_D) (a0 : Nat) (a1 : Int32) (a2 : Int32) : Option (Int32 × z_D) :=
  z_gK G 103 (z_R G 1001 a0) (z_gK G 105 (z_R G 1000 a0) ((f_X3_copyPiece G D (z_R G 1001 a0) a1 a2 (z_R G 1000 a0)).bind (fun p4 => ((some (p4.1, p4.2))))))
set_option maxRecDepth 100000 in
set_option maxHeartbeats 4000000 in
theorem b_X10_piece {q : z_Q} {X : z_X} {G : z_G} {D : z_D} {a0 : Nat} {a1 : Int32} {a2 : Int32} {r : Int32} {D1 : z_D} (o : z_O q X cX10_piece 3 "FlashTrust" "piece" (some .int)) (hX : x_R X = z_rm 3 0 0) (hK0 : z_K G a0 = 110) (h : f_X10_piece G D a0 a1 a2 = some (r, D1)) : z_V q X 3 (z_F q X (some (.int r)) G D1 0 0) 0 0 G D 0 [(0, .ref (z_w q a0)), (1, .int a1), (2, .int a2)] [] := by
  unfold f_X10_piece at h
  refine v_aload_n o dX10_piece_0 rfl 0 rfl ?_
  obtain ⟨n1, h⟩ := z_gK_of h
  refine gt_10_1 o hK0 ln_3_28 (by rw [n1]; decide) dX10_piece_1 ?_
  refine v_iload_n o dX10_piece_4 rfl 1 rfl ?_
  refine v_iload_n o dX10_piece_5 rfl 2 rfl ?_
  refine v_aload_n o dX10_piece_6 rfl 0 rfl ?_
  obtain ⟨n2, h⟩ := z_gK_of h
  refine gt_10_0 o hK0 ln_3_27 (by rw [n2]; decide) dX10_piece_7 ?_
  obtain ⟨p4, he3, h⟩ := z_bind h
  refine v_callV o yw_X3_copyPiece ln_3_170 wi_X3_copyPiece ws_X3_copyPiece hX (by decide) 3 rfl n1 (As := [.int a1, .int a2, .ref (z_w q (z_R G 1000 a0))]) rfl rfl (Nat.le_of_ble_eq_true rfl) (e_X3_copyPiece n1 he3) dX10_piece_10 ?_
  obtain ⟨hr, hs⟩ := Prod.mk.inj (z_some h)
  subst hr
  subst hs
  exact v_ireturn o dX10_piece_13
theorem e_X10_piece {q : z_Q} {l : Launch} {G : z_G} {D : z_D} {a0 : Nat} {a1 : Int32} {a2 : Int32} {r : Int32} {D1 : z_D} (hK0 : z_K G a0 = 110) (h : f_X10_piece G D a0 a1 a2 = some (r, D1)) : z_E q l yX10_piece cX10_piece 3 (some .int) 3 0 0 [.ref (z_w q a0), .int a1, .int a2] G D (some (.int r)) G D1 :=
  z_E.of (by decide) (Nat.le_of_ble_eq_true rfl) (fun X hX _ o => b_X10_piece o hX hK0 h)
def f_X10_spoil (G : z_G) (D : z_D) (a0 : Nat) (a1 : Int32) (a2 : Int32) : Option (Int32 × z_D) :=
  z_gK G 105 (z_R G 1000 a0) ((f_X5_has G D (z_R G 1000 a0) a1).bind (fun r3 => ((if r3 = (0 : Int32) then ((some ((-1 : Int32), D))) else ((if a2 < (1 : Int32) then ((some ((-1 : Int32), D))) else ((if a2 ≤ (255 : Int32) then ((f_X5_at G D (z_R G 1000 a0) a1).bind (fun r8 => ((f_X5_set G D (z_R G 1000 a0) a1 (r8 ^^^ a2)).bind (fun D10 => ((f_X5_at G D10 (z_R G 1000 a0) a1).bind (fun r12 => ((some (r12, D10))))))))) else ((some ((-1 : Int32), D)))))))))))
set_option maxRecDepth 100000 in
set_option maxHeartbeats 4000000 in
theorem b_X10_spoil {q : z_Q} {X : z_X} {G : z_G} {D : z_D} {a0 : Nat} {a1 : Int32} {a2 : Int32} {r : Int32} {D1 : z_D} (o : z_O q X cX10_spoil 3 "FlashTrust" "spoil" (some .int)) (hX : x_R X = z_rm 1 0 0) (hK0 : z_K G a0 = 110) (h : f_X10_spoil G D a0 a1 a2 = some (r, D1)) : z_V q X 3 (z_F q X (some (.int r)) G D1 0 0) 0 0 G D 0 [(0, .ref (z_w q a0)), (1, .int a1), (2, .int a2)] [] := by
  unfold f_X10_spoil at h
  refine v_aload_n o dX10_spoil_0 rfl 0 rfl ?_
  obtain ⟨n1, h⟩ := z_gK_of h
  refine gt_10_0 o hK0 ln_3_27 (by rw [n1]; decide) dX10_spoil_1 ?_
  refine v_iload_n o dX10_spoil_4 rfl 1 rfl ?_
  obtain ⟨r3, he2, h⟩ := z_bind h
  refine v_callV o yw_X5_has ln_3_70 wi_X5_has ws_X5_has hX (by decide) 5 rfl n1 (As := [.int a1]) rfl rfl (Nat.le_of_ble_eq_true rfl) (e_X5_has n1 he2) dX10_spoil_5 ?_
  refine v_if_eq o 23 dX10_spoil_8 (by decide) (fun c4 => ?_) (fun c4 => ?_)
  · replace h := z_ip c4 h
    refine v_iconst o (-1 : Int32) dX10_spoil_23 (by decide) ?_
    obtain ⟨hr, hs⟩ := Prod.mk.inj (z_some h)
    subst hr
    subst hs
    exact v_ireturn o dX10_spoil_24
  · replace h := z_in c4 h
    refine v_iload_n o dX10_spoil_11 rfl 2 rfl ?_
    refine v_iconst o (1 : Int32) dX10_spoil_12 (by decide) ?_
    refine v_icmp_lt o 23 dX10_spoil_13 (by decide) (fun c5 => ?_) (fun c5 => ?_)
    · replace h := z_ip c5 h
      refine v_iconst o (-1 : Int32) dX10_spoil_23 (by decide) ?_
      obtain ⟨hr, hs⟩ := Prod.mk.inj (z_some h)
      subst hr
      subst hs
      exact v_ireturn o dX10_spoil_24
    · replace h := z_in c5 h
      refine v_iload_n o dX10_spoil_16 rfl 2 rfl ?_
      refine v_sipush o (255 : Int32) dX10_spoil_17 (by decide) ?_
      refine v_icmp_le o 25 dX10_spoil_20 (by decide) (fun c6 => ?_) (fun c6 => ?_)
      · replace h := z_ip c6 h
        refine v_aload_n o dX10_spoil_25 rfl 0 rfl ?_
        refine gt_10_0 o hK0 ln_3_27 (by rw [n1]; decide) dX10_spoil_26 ?_
        refine v_iload_n o dX10_spoil_29 rfl 1 rfl ?_
        refine v_aload_n o dX10_spoil_30 rfl 0 rfl ?_
        refine gt_10_0 o hK0 ln_3_27 (by rw [n1]; decide) dX10_spoil_31 ?_
        refine v_iload_n o dX10_spoil_34 rfl 1 rfl ?_
        obtain ⟨r8, he7, h⟩ := z_bind h
        refine v_callV o yw_X5_at ln_3_74 wi_X5_at ws_X5_at hX (by decide) 5 rfl n1 (As := [.int a1]) rfl rfl (Nat.le_of_ble_eq_true rfl) (e_X5_at n1 he7) dX10_spoil_35 ?_
        refine v_iload_n o dX10_spoil_38 rfl 2 rfl ?_
        refine v_ixor o dX10_spoil_39 ?_
        obtain ⟨D10, he9, h⟩ := z_bind h
        refine v_callV o yw_X5_set ln_3_179 wi_X5_set ws_X5_set hX (by decide) 5 rfl n1 (As := [.int a1, .int (r8 ^^^ a2)]) rfl rfl (Nat.le_of_ble_eq_true rfl) (e_X5_set n1 he9) dX10_spoil_40 ?_
        refine v_aload_n o dX10_spoil_43 rfl 0 rfl ?_
        refine gt_10_0 o hK0 ln_3_27 (by rw [n1]; decide) dX10_spoil_44 ?_
        refine v_iload_n o dX10_spoil_47 rfl 1 rfl ?_
        obtain ⟨r12, he11, h⟩ := z_bind h
        refine v_callV o yw_X5_at ln_3_74 wi_X5_at ws_X5_at hX (by decide) 5 rfl n1 (As := [.int a1]) rfl rfl (Nat.le_of_ble_eq_true rfl) (e_X5_at n1 he11) dX10_spoil_48 ?_
        obtain ⟨hr, hs⟩ := Prod.mk.inj (z_some h)
        subst hr
        subst hs
        exact v_ireturn o dX10_spoil_51
      · replace h := z_in c6 h
        refine v_iconst o (-1 : Int32) dX10_spoil_23 (by decide) ?_
        obtain ⟨hr, hs⟩ := Prod.mk.inj (z_some h)
        subst hr
        subst hs
        exact v_ireturn o dX10_spoil_24
theorem e_X10_spoil {q : z_Q} {l : Launch} {G : z_G} {D : z_D} {a0 : Nat} {a1 : Int32} {a2 : Int32} {r : Int32} {D1 : z_D} (hK0 : z_K G a0 = 110) (h : f_X10_spoil G D a0 a1 a2 = some (r, D1)) : z_E q l yX10_spoil cX10_spoil 3 (some .int) 1 0 0 [.ref (z_w q a0), .int a1, .int a2] G D (some (.int r)) G D1 :=
  z_E.of (by decide) (Nat.le_of_ble_eq_true rfl) (fun X hX _ o => b_X10_spoil o hX hK0 h)
def f_X10_begin (G : z_G) (D : z_D) (a0 : Nat) (a1 : Int32) : Option (Int32 × z_D) :=
  (if (0 : Int32) ≤ a1 then (z_gK G 101 (z_R G 1002 a0) ((f_X1_isDown G D (z_R G 1002 a0)).bind (fun r4 => ((if r4 = (0 : Int32) then (z_gK G 109 (z_R G 1006 a0) ((f_X9_goesOn G D (z_R G 1006 a0)).bind (fun r8 => ((if r8 = (0 : Int32) then (z_gK G 102 (z_R G 1005 a0) ((f_X2_isSettled G D (z_R G 1005 a0)).bind (fun r12 => ((if r12 = (0 : Int32) then ((some ((-4 : Int32), D))) else ((f_X9_start G D (z_R G 1006 a0) a1).bind (fun p15 => ((some (p15.1, p15.2)))))))))) else ((some ((-4 : Int32), D)))))))) else ((some ((-3 : Int32), D)))))))) else ((some ((-1 : Int32), D))))
set_option maxRecDepth 100000 in
set_option maxHeartbeats 4000000 in
theorem b_X10_begin {q : z_Q} {X : z_X} {G : z_G} {D : z_D} {a0 : Nat} {a1 : Int32} {r : Int32} {D1 : z_D} (o : z_O q X cX10_begin 2 "FlashTrust" "begin" (some .int)) (hX : x_R X = z_rm 1 0 0) (hK0 : z_K G a0 = 110) (h : f_X10_begin G D a0 a1 = some (r, D1)) : z_V q X 2 (z_F q X (some (.int r)) G D1 0 0) 0 0 G D 0 [(0, .ref (z_w q a0)), (1, .int a1)] [] := by
  unfold f_X10_begin at h
  refine v_iload_n o dX10_begin_0 rfl 1 rfl ?_
  refine v_if_ge o 6 dX10_begin_1 (by decide) (fun c1 => ?_) (fun c1 => ?_)
  · replace h := z_ip c1 h
    refine v_aload_n o dX10_begin_6 rfl 0 rfl ?_
    obtain ⟨n2, h⟩ := z_gK_of h
    refine gt_10_2 o hK0 ln_3_29 (by rw [n2]; decide) dX10_begin_7 ?_
    obtain ⟨r4, he3, h⟩ := z_bind h
    refine v_callV o yw_X1_isDown ln_3_184 wi_X1_isDown ws_X1_isDown hX (by decide) 1 rfl n2 (As := []) rfl rfl (Nat.le_of_ble_eq_true rfl) (e_X1_isDown n2 he3) dX10_begin_10 ?_
    refine v_if_eq o 19 dX10_begin_13 (by decide) (fun c5 => ?_) (fun c5 => ?_)
    · replace h := z_ip c5 h
      refine v_aload_n o dX10_begin_19 rfl 0 rfl ?_
      obtain ⟨n6, h⟩ := z_gK_of h
      refine gt_10_6 o hK0 ln_3_33 (by rw [n6]; decide) dX10_begin_20 ?_
      obtain ⟨r8, he7, h⟩ := z_bind h
      refine v_callV o yw_X9_goesOn ln_3_188 wi_X9_goesOn ws_X9_goesOn hX (by decide) 9 rfl n6 (As := []) rfl rfl (Nat.le_of_ble_eq_true rfl) (e_X9_goesOn n6 he7) dX10_begin_23 ?_
      refine v_if_ne o 39 dX10_begin_26 (by decide) (fun c9 => ?_) (fun c9 => ?_)
      · replace h := z_in c9 h
        refine v_bipush o (-4 : Int32) dX10_begin_39 (by decide) ?_
        obtain ⟨hr, hs⟩ := Prod.mk.inj (z_some h)
        subst hr
        subst hs
        exact v_ireturn o dX10_begin_41
      · replace h := z_ip c9 h
        refine v_aload_n o dX10_begin_29 rfl 0 rfl ?_
        obtain ⟨n10, h⟩ := z_gK_of h
        refine gt_10_5 o hK0 ln_3_32 (by rw [n10]; decide) dX10_begin_30 ?_
        obtain ⟨r12, he11, h⟩ := z_bind h
        refine v_callV o yw_X2_isSettled ln_3_192 wi_X2_isSettled ws_X2_isSettled hX (by decide) 2 rfl n10 (As := []) rfl rfl (Nat.le_of_ble_eq_true rfl) (e_X2_isSettled n10 he11) dX10_begin_33 ?_
        refine v_if_ne o 42 dX10_begin_36 (by decide) (fun c13 => ?_) (fun c13 => ?_)
        · replace h := z_in c13 h
          refine v_aload_n o dX10_begin_42 rfl 0 rfl ?_
          refine gt_10_6 o hK0 ln_3_33 (by rw [n6]; decide) dX10_begin_43 ?_
          refine v_iload_n o dX10_begin_46 rfl 1 rfl ?_
          obtain ⟨p15, he14, h⟩ := z_bind h
          refine v_callV o yw_X9_start ln_3_196 wi_X9_start ws_X9_start hX (by decide) 9 rfl n6 (As := [.int a1]) rfl rfl (Nat.le_of_ble_eq_true rfl) (e_X9_start n6 he14) dX10_begin_47 ?_
          obtain ⟨hr, hs⟩ := Prod.mk.inj (z_some h)
          subst hr
          subst hs
          exact v_ireturn o dX10_begin_50
        · replace h := z_ip c13 h
          refine v_bipush o (-4 : Int32) dX10_begin_39 (by decide) ?_
          obtain ⟨hr, hs⟩ := Prod.mk.inj (z_some h)
          subst hr
          subst hs
          exact v_ireturn o dX10_begin_41
    · replace h := z_in c5 h
      refine v_bipush o (-3 : Int32) dX10_begin_16 (by decide) ?_
      obtain ⟨hr, hs⟩ := Prod.mk.inj (z_some h)
      subst hr
      subst hs
      exact v_ireturn o dX10_begin_18
  · replace h := z_in c1 h
    refine v_iconst o (-1 : Int32) dX10_begin_4 (by decide) ?_
    obtain ⟨hr, hs⟩ := Prod.mk.inj (z_some h)
    subst hr
    subst hs
    exact v_ireturn o dX10_begin_5
theorem e_X10_begin {q : z_Q} {l : Launch} {G : z_G} {D : z_D} {a0 : Nat} {a1 : Int32} {r : Int32} {D1 : z_D} (hK0 : z_K G a0 = 110) (h : f_X10_begin G D a0 a1 = some (r, D1)) : z_E q l yX10_begin cX10_begin 2 (some .int) 1 0 0 [.ref (z_w q a0), .int a1] G D (some (.int r)) G D1 :=
  z_E.of (by decide) (Nat.le_of_ble_eq_true rfl) (fun X hX _ o => b_X10_begin o hX hK0 h)
def f_X10_unlessDown (G : z_G) (D : z_D) (a0 : Nat) (a1 : Int32) : Option (Int32 × z_D) :=
  z_gK G 101 (z_R G 1002 a0) ((f_X1_isDown G D (z_R G 1002 a0)).bind (fun r3 => ((if r3 = (0 : Int32) then ((some (a1, D))) else (z_gK G 109 (z_R G 1006 a0) ((f_X9_giveUp G D (z_R G 1006 a0)).bind (fun D7 => (z_gK G 102 (z_R G 1005 a0) ((f_X2_halt G D7 (z_R G 1005 a0)).bind (fun D10 => ((some ((-3 : Int32), D10)))))))))))))
set_option maxRecDepth 100000 in
set_option maxHeartbeats 4000000 in
theorem b_X10_unlessDown {q : z_Q} {X : z_X} {G : z_G} {D : z_D} {a0 : Nat} {a1 : Int32} {r : Int32} {D1 : z_D} (o : z_O q X cX10_unlessDown 2 "FlashTrust" "unlessDown" (some .int)) (hX : x_R X = z_rm 1 0 0) (hK0 : z_K G a0 = 110) (h : f_X10_unlessDown G D a0 a1 = some (r, D1)) : z_V q X 2 (z_F q X (some (.int r)) G D1 0 0) 0 0 G D 0 [(0, .ref (z_w q a0)), (1, .int a1)] [] := by
  unfold f_X10_unlessDown at h
  refine v_aload_n o dX10_unlessDown_0 rfl 0 rfl ?_
  obtain ⟨n1, h⟩ := z_gK_of h
  refine gt_10_2 o hK0 ln_3_29 (by rw [n1]; decide) dX10_unlessDown_1 ?_
  obtain ⟨r3, he2, h⟩ := z_bind h
  refine v_callV o yw_X1_isDown ln_3_184 wi_X1_isDown ws_X1_isDown hX (by decide) 1 rfl n1 (As := []) rfl rfl (Nat.le_of_ble_eq_true rfl) (e_X1_isDown n1 he2) dX10_unlessDown_4 ?_
  refine v_if_ne o 12 dX10_unlessDown_7 (by decide) (fun c4 => ?_) (fun c4 => ?_)
  · replace h := z_in c4 h
    refine v_aload_n o dX10_unlessDown_12 rfl 0 rfl ?_
    obtain ⟨n5, h⟩ := z_gK_of h
    refine gt_10_6 o hK0 ln_3_33 (by rw [n5]; decide) dX10_unlessDown_13 ?_
    obtain ⟨D7, he6, h⟩ := z_bind h
    refine v_callV o yw_X9_giveUp ln_4_163 wi_X9_giveUp ws_X9_giveUp hX (by decide) 9 rfl n5 (As := []) rfl rfl (Nat.le_of_ble_eq_true rfl) (e_X9_giveUp n5 he6) dX10_unlessDown_16 ?_
    refine v_aload_n o dX10_unlessDown_19 rfl 0 rfl ?_
    obtain ⟨n8, h⟩ := z_gK_of h
    refine gt_10_5 o hK0 ln_3_32 (by rw [n8]; decide) dX10_unlessDown_20 ?_
    obtain ⟨D10, he9, h⟩ := z_bind h
    refine v_callV o yw_X2_halt ln_4_164 wi_X2_halt ws_X2_halt hX (by decide) 2 rfl n8 (As := []) rfl rfl (Nat.le_of_ble_eq_true rfl) (e_X2_halt n8 he9) dX10_unlessDown_23 ?_
    refine v_bipush o (-3 : Int32) dX10_unlessDown_26 (by decide) ?_
    obtain ⟨hr, hs⟩ := Prod.mk.inj (z_some h)
    subst hr
    subst hs
    exact v_ireturn o dX10_unlessDown_28
  · replace h := z_ip c4 h
    refine v_iload_n o dX10_unlessDown_10 rfl 1 rfl ?_
    obtain ⟨hr, hs⟩ := Prod.mk.inj (z_some h)
    subst hr
    subst hs
    exact v_ireturn o dX10_unlessDown_11
theorem e_X10_unlessDown {q : z_Q} {l : Launch} {G : z_G} {D : z_D} {a0 : Nat} {a1 : Int32} {r : Int32} {D1 : z_D} (hK0 : z_K G a0 = 110) (h : f_X10_unlessDown G D a0 a1 = some (r, D1)) : z_E q l yX10_unlessDown cX10_unlessDown 2 (some .int) 1 0 0 [.ref (z_w q a0), .int a1] G D (some (.int r)) G D1 :=
  z_E.of (by decide) (Nat.le_of_ble_eq_true rfl) (fun X hX _ o => b_X10_unlessDown o hX hK0 h)
def j_X10_answer_90 (G : z_G) (D : z_D) (a0 : Nat) (a1 : Int32)  : Option (Int32 × z_D) :=
  z_gK G 105 (z_R G 1000 a0) ((f_X5_empty G D (z_R G 1000 a0)).bind (fun D16 => ((f_X10_unlessDown G D16 a0 a1).bind (fun p18 => ((some (p18.1, p18.2)))))))
set_option maxRecDepth 100000 in
set_option maxHeartbeats 4000000 in
theorem tj_X10_answer_90 {q : z_Q} {X : z_X} {G : z_G} {D : z_D} {a0 : Nat} {a1 : Int32}  {r : Int32} {D1 : z_D} (o : z_O q X cX10_answer 2 "FlashTrust" "answer" (some .int)) (hX : x_R X = z_rm 6 0 0) (hK0 : z_K G a0 = 110) (h : j_X10_answer_90 G D a0 a1  = some (r, D1)) : z_V q X 2 (z_F q X (some (.int r)) G D1 0 0) 0 0 G D 90 [(0, .ref (z_w q a0)), (1, .int a1)] [] := by
  unfold j_X10_answer_90 at h
  refine v_aload_n o dX10_answer_90 rfl 0 rfl ?_
  obtain ⟨n14, h⟩ := z_gK_of h
  refine gt_10_0 o hK0 ln_3_27 (by rw [n14]; decide) dX10_answer_91 ?_
  obtain ⟨D16, he15, h⟩ := z_bind h
  refine v_callV o yw_X5_empty ln_4_158 wi_X5_empty ws_X5_empty hX (by decide) 5 rfl n14 (As := []) rfl rfl (Nat.le_of_ble_eq_true rfl) (e_X5_empty n14 he15) dX10_answer_94 ?_
  refine v_aload_n o dX10_answer_97 rfl 0 rfl ?_
  refine v_iload_n o dX10_answer_98 rfl 1 rfl ?_
  obtain ⟨p18, he17, h⟩ := z_bind h
  refine v_callV o yw_X10_unlessDown ln_4_159 wi_X10_unlessDown ws_X10_unlessDown hX (by decide) 10 rfl hK0 (As := [.int a1]) rfl rfl (Nat.le_of_ble_eq_true rfl) (e_X10_unlessDown hK0 he17) dX10_answer_99 ?_
  obtain ⟨hr, hs⟩ := Prod.mk.inj (z_some h)
  subst hr
  subst hs
  exact v_ireturn o dX10_answer_102
def f_X10_answer (G : z_G) (D : z_D) (a0 : Nat) : Option (Int32 × z_D) :=
  z_gK G 101 (z_R G 1002 a0) ((f_X1_isDown G D (z_R G 1002 a0)).bind (fun r3 => ((if r3 = (0 : Int32) then (z_gK G 109 (z_R G 1006 a0) ((f_X9_goesOn G D (z_R G 1006 a0)).bind (fun r7 => ((if r7 = (0 : Int32) then ((some ((-4 : Int32), D))) else ((if (z_I D 906 (z_R G 1006 a0)) = (1 : Int32) then (z_gK G 105 (z_R G 1000 a0) ((f_X9_takeRoot G D (z_R G 1006 a0) (z_R G 1000 a0)).bind (fun p24 => ((j_X10_answer_90 G p24.2  a0 p24.1))))) else ((if (z_I D 906 (z_R G 1006 a0)) = (5 : Int32) then (z_gK G 105 (z_R G 1000 a0) ((f_X9_takePiece G D (z_R G 1006 a0) (z_R G 1000 a0)).bind (fun p21 => ((j_X10_answer_90 G p21.2  a0 p21.1))))) else (z_gK G 105 (z_R G 1000 a0) ((f_X9_takePaper G D (z_R G 1006 a0) (z_R G 1000 a0)).bind (fun p13 => ((j_X10_answer_90 G p13.2  a0 p13.1)))))))))))))) else ((some ((-3 : Int32), D)))))))
set_option maxRecDepth 100000 in
set_option maxHeartbeats 4000000 in
theorem b_X10_answer {q : z_Q} {X : z_X} {G : z_G} {D : z_D} {a0 : Nat} {r : Int32} {D1 : z_D} (o : z_O q X cX10_answer 2 "FlashTrust" "answer" (some .int)) (hX : x_R X = z_rm 6 0 0) (hK0 : z_K G a0 = 110) (h : f_X10_answer G D a0 = some (r, D1)) : z_V q X 2 (z_F q X (some (.int r)) G D1 0 0) 0 0 G D 0 [(0, .ref (z_w q a0))] [] := by
  unfold f_X10_answer at h
  refine v_aload_n o dX10_answer_0 rfl 0 rfl ?_
  obtain ⟨n1, h⟩ := z_gK_of h
  refine gt_10_2 o hK0 ln_3_29 (by rw [n1]; decide) dX10_answer_1 ?_
  obtain ⟨r3, he2, h⟩ := z_bind h
  refine v_callV o yw_X1_isDown ln_3_184 wi_X1_isDown ws_X1_isDown hX (by decide) 1 rfl n1 (As := []) rfl rfl (Nat.le_of_ble_eq_true rfl) (e_X1_isDown n1 he2) dX10_answer_4 ?_
  refine v_if_eq o 13 dX10_answer_7 (by decide) (fun c4 => ?_) (fun c4 => ?_)
  · replace h := z_ip c4 h
    refine v_aload_n o dX10_answer_13 rfl 0 rfl ?_
    obtain ⟨n5, h⟩ := z_gK_of h
    refine gt_10_6 o hK0 ln_3_33 (by rw [n5]; decide) dX10_answer_14 ?_
    obtain ⟨r7, he6, h⟩ := z_bind h
    refine v_callV o yw_X9_goesOn ln_3_188 wi_X9_goesOn ws_X9_goesOn hX (by decide) 9 rfl n5 (As := []) rfl rfl (Nat.le_of_ble_eq_true rfl) (e_X9_goesOn n5 he6) dX10_answer_17 ?_
    refine v_if_ne o 26 dX10_answer_20 (by decide) (fun c8 => ?_) (fun c8 => ?_)
    · replace h := z_in c8 h
      refine v_aload_n o dX10_answer_26 rfl 0 rfl ?_
      refine gt_10_6 o hK0 ln_3_33 (by rw [n5]; decide) dX10_answer_27 ?_
      refine gt_9_6 o n5 ln_2_239 dX10_answer_30 ?_
      refine v_iconst o (1 : Int32) dX10_answer_33 (by decide) ?_
      refine v_icmp_ne o 52 dX10_answer_34 (by decide) (fun c9 => ?_) (fun c9 => ?_)
      · replace h := z_in c9 h
        refine v_aload_n o dX10_answer_52 rfl 0 rfl ?_
        refine gt_10_6 o hK0 ln_3_33 (by rw [n5]; decide) dX10_answer_53 ?_
        refine gt_9_6 o n5 ln_2_239 dX10_answer_56 ?_
        refine v_iconst o (5 : Int32) dX10_answer_59 (by decide) ?_
        refine v_icmp_ne o 78 dX10_answer_60 (by decide) (fun c10 => ?_) (fun c10 => ?_)
        · replace h := z_in c10 h
          refine v_aload_n o dX10_answer_78 rfl 0 rfl ?_
          refine gt_10_6 o hK0 ln_3_33 (by rw [n5]; decide) dX10_answer_79 ?_
          refine v_aload_n o dX10_answer_82 rfl 0 rfl ?_
          obtain ⟨n11, h⟩ := z_gK_of h
          refine gt_10_0 o hK0 ln_3_27 (by rw [n11]; decide) dX10_answer_83 ?_
          obtain ⟨p13, he12, h⟩ := z_bind h
          refine v_callV o yw_X9_takePaper ln_4_117 wi_X9_takePaper ws_X9_takePaper hX (by decide) 9 rfl n5 (As := [.ref (z_w q (z_R G 1000 a0))]) rfl rfl (Nat.le_of_ble_eq_true rfl) (e_X9_takePaper n5 he12) dX10_answer_86 ?_
          refine v_istore_n o [(1, .int p13.1), (0, .ref (z_w q a0))] dX10_answer_89 rfl (by decide) rfl ?_
          refine v_sub [1, 0] rfl ?_
          exact tj_X10_answer_90 o hX hK0 h
        · replace h := z_ip c10 h
          refine v_aload_n o dX10_answer_63 rfl 0 rfl ?_
          refine gt_10_6 o hK0 ln_3_33 (by rw [n5]; decide) dX10_answer_64 ?_
          refine v_aload_n o dX10_answer_67 rfl 0 rfl ?_
          obtain ⟨n19, h⟩ := z_gK_of h
          refine gt_10_0 o hK0 ln_3_27 (by rw [n19]; decide) dX10_answer_68 ?_
          obtain ⟨p21, he20, h⟩ := z_bind h
          refine v_callV o yw_X9_takePiece ln_4_82 wi_X9_takePiece ws_X9_takePiece hX (by decide) 9 rfl n5 (As := [.ref (z_w q (z_R G 1000 a0))]) rfl rfl (Nat.le_of_ble_eq_true rfl) (e_X9_takePiece n5 he20) dX10_answer_71 ?_
          refine v_istore_n o [(1, .int p21.1), (0, .ref (z_w q a0))] dX10_answer_74 rfl (by decide) rfl ?_
          refine v_goto o 90 dX10_answer_75 (by decide) ?_
          refine v_sub [1, 0] rfl ?_
          exact tj_X10_answer_90 o hX hK0 h
      · replace h := z_ip c9 h
        refine v_aload_n o dX10_answer_37 rfl 0 rfl ?_
        refine gt_10_6 o hK0 ln_3_33 (by rw [n5]; decide) dX10_answer_38 ?_
        refine v_aload_n o dX10_answer_41 rfl 0 rfl ?_
        obtain ⟨n22, h⟩ := z_gK_of h
        refine gt_10_0 o hK0 ln_3_27 (by rw [n22]; decide) dX10_answer_42 ?_
        obtain ⟨p24, he23, h⟩ := z_bind h
        refine v_callV o yw_X9_takeRoot ln_3_204 wi_X9_takeRoot ws_X9_takeRoot hX (by decide) 9 rfl n5 (As := [.ref (z_w q (z_R G 1000 a0))]) rfl rfl (Nat.le_of_ble_eq_true rfl) (e_X9_takeRoot n5 he23) dX10_answer_45 ?_
        refine v_istore_n o [(1, .int p24.1), (0, .ref (z_w q a0))] dX10_answer_48 rfl (by decide) rfl ?_
        refine v_goto o 90 dX10_answer_49 (by decide) ?_
        refine v_sub [1, 0] rfl ?_
        exact tj_X10_answer_90 o hX hK0 h
    · replace h := z_ip c8 h
      refine v_bipush o (-4 : Int32) dX10_answer_23 (by decide) ?_
      obtain ⟨hr, hs⟩ := Prod.mk.inj (z_some h)
      subst hr
      subst hs
      exact v_ireturn o dX10_answer_25
  · replace h := z_in c4 h
    refine v_bipush o (-3 : Int32) dX10_answer_10 (by decide) ?_
    obtain ⟨hr, hs⟩ := Prod.mk.inj (z_some h)
    subst hr
    subst hs
    exact v_ireturn o dX10_answer_12
theorem e_X10_answer {q : z_Q} {l : Launch} {G : z_G} {D : z_D} {a0 : Nat} {r : Int32} {D1 : z_D} (hK0 : z_K G a0 = 110) (h : f_X10_answer G D a0 = some (r, D1)) : z_E q l yX10_answer cX10_answer 2 (some .int) 6 0 0 [.ref (z_w q a0)] G D (some (.int r)) G D1 :=
  z_E.of (by decide) (Nat.le_of_ble_eq_true rfl) (fun X hX _ o => b_X10_answer o hX hK0 h)
def f_X10_refuse (G : z_G) (D : z_D) (a0 : Nat) : Option (Int32 × z_D) :=
  z_gK G 101 (z_R G 1002 a0) ((f_X1_isDown G D (z_R G 1002 a0)).bind (fun r3 => ((if r3 = (0 : Int32) then (z_gK G 109 (z_R G 1006 a0) ((f_X9_goesOn G D (z_R G 1006 a0)).bind (fun r7 => ((if r7 = (0 : Int32) then ((some ((-4 : Int32), D))) else ((f_X9_takeRefusal G D (z_R G 1006 a0)).bind (fun p10 => ((some (p10.1, p10.2)))))))))) else ((some ((-3 : Int32), D)))))))
set_option maxRecDepth 100000 in
set_option maxHeartbeats 4000000 in
theorem b_X10_refuse {q : z_Q} {X : z_X} {G : z_G} {D : z_D} {a0 : Nat} {r : Int32} {D1 : z_D} (o : z_O q X cX10_refuse 1 "FlashTrust" "refuse" (some .int)) (hX : x_R X = z_rm 5 0 0) (hK0 : z_K G a0 = 110) (h : f_X10_refuse G D a0 = some (r, D1)) : z_V q X 1 (z_F q X (some (.int r)) G D1 0 0) 0 0 G D 0 [(0, .ref (z_w q a0))] [] := by
  unfold f_X10_refuse at h
  refine v_aload_n o dX10_refuse_0 rfl 0 rfl ?_
  obtain ⟨n1, h⟩ := z_gK_of h
  refine gt_10_2 o hK0 ln_3_29 (by rw [n1]; decide) dX10_refuse_1 ?_
  obtain ⟨r3, he2, h⟩ := z_bind h
  refine v_callV o yw_X1_isDown ln_3_184 wi_X1_isDown ws_X1_isDown hX (by decide) 1 rfl n1 (As := []) rfl rfl (Nat.le_of_ble_eq_true rfl) (e_X1_isDown n1 he2) dX10_refuse_4 ?_
  refine v_if_eq o 13 dX10_refuse_7 (by decide) (fun c4 => ?_) (fun c4 => ?_)
  · replace h := z_ip c4 h
    refine v_aload_n o dX10_refuse_13 rfl 0 rfl ?_
    obtain ⟨n5, h⟩ := z_gK_of h
    refine gt_10_6 o hK0 ln_3_33 (by rw [n5]; decide) dX10_refuse_14 ?_
    obtain ⟨r7, he6, h⟩ := z_bind h
    refine v_callV o yw_X9_goesOn ln_3_188 wi_X9_goesOn ws_X9_goesOn hX (by decide) 9 rfl n5 (As := []) rfl rfl (Nat.le_of_ble_eq_true rfl) (e_X9_goesOn n5 he6) dX10_refuse_17 ?_
    refine v_if_ne o 26 dX10_refuse_20 (by decide) (fun c8 => ?_) (fun c8 => ?_)
    · replace h := z_in c8 h
      refine v_aload_n o dX10_refuse_26 rfl 0 rfl ?_
      refine gt_10_6 o hK0 ln_3_33 (by rw [n5]; decide) dX10_refuse_27 ?_
      obtain ⟨p10, he9, h⟩ := z_bind h
      refine v_callV o yw_X9_takeRefusal ln_4_172 wi_X9_takeRefusal ws_X9_takeRefusal hX (by decide) 9 rfl n5 (As := []) rfl rfl (Nat.le_of_ble_eq_true rfl) (e_X9_takeRefusal n5 he9) dX10_refuse_30 ?_
      obtain ⟨hr, hs⟩ := Prod.mk.inj (z_some h)
      subst hr
      subst hs
      exact v_ireturn o dX10_refuse_33
    · replace h := z_ip c8 h
      refine v_bipush o (-4 : Int32) dX10_refuse_23 (by decide) ?_
      obtain ⟨hr, hs⟩ := Prod.mk.inj (z_some h)
      subst hr
      subst hs
      exact v_ireturn o dX10_refuse_25
  · replace h := z_in c4 h
    refine v_bipush o (-3 : Int32) dX10_refuse_10 (by decide) ?_
    obtain ⟨hr, hs⟩ := Prod.mk.inj (z_some h)
    subst hr
    subst hs
    exact v_ireturn o dX10_refuse_12
theorem e_X10_refuse {q : z_Q} {l : Launch} {G : z_G} {D : z_D} {a0 : Nat} {r : Int32} {D1 : z_D} (hK0 : z_K G a0 = 110) (h : f_X10_refuse G D a0 = some (r, D1)) : z_E q l yX10_refuse cX10_refuse 1 (some .int) 5 0 0 [.ref (z_w q a0)] G D (some (.int r)) G D1 :=
  z_E.of (by decide) (Nat.le_of_ble_eq_true rfl) (fun X hX _ o => b_X10_refuse o hX hK0 h)
def f_X10_awaits (G : z_G) (D : z_D) (a0 : Nat) (a1 : Int32) : Option (Int32) :=
  (if a1 = (0 : Int32) then (z_gK G 109 (z_R G 1006 a0) ((some (z_I D 906 (z_R G 1006 a0))))) else (if a1 = (1 : Int32) then (z_gK G 109 (z_R G 1006 a0) ((f_X9_wantedVersion G D (z_R G 1006 a0)).bind (fun r6 => ((some r6))))) else (if a1 = (2 : Int32) then (z_gK G 109 (z_R G 1006 a0) ((some (z_I D 907 (z_R G 1006 a0))))) else ((some (-1 : Int32))))))
set_option maxRecDepth 100000 in
set_option maxHeartbeats 4000000 in
theorem b_X10_awaits {q : z_Q} {X : z_X} {G : z_G} {D : z_D} {a0 : Nat} {a1 : Int32} {r : Int32} (o : z_O q X cX10_awaits 2 "FlashTrust" "awaits" (some .int)) (hX : x_R X = z_rm 5 0 0) (hK0 : z_K G a0 = 110) (h : f_X10_awaits G D a0 a1 = some r) : z_V q X 2 (z_F q X (some (.int r)) G D 0 0) 0 0 G D 0 [(0, .ref (z_w q a0)), (1, .int a1)] [] := by
  unfold f_X10_awaits at h
  refine v_iload_n o dX10_awaits_0 rfl 1 rfl ?_
  by_cases c1 : a1 = (0 : Int32)
  · replace h := z_ip c1 h
    refine v_tabAt o (0 : Int32) 28 dX10_awaits_1 c1 (by decide) (by decide) rfl (by decide) ?_
    refine v_aload_n o dX10_awaits_28 rfl 0 rfl ?_
    obtain ⟨n2, h⟩ := z_gK_of h
    refine gt_10_6 o hK0 ln_3_33 (by rw [n2]; decide) dX10_awaits_29 ?_
    refine gt_9_6 o n2 ln_2_239 dX10_awaits_32 ?_
    have hr := z_some h
    subst hr
    exact v_ireturn o dX10_awaits_35
  · replace h := z_in c1 h
    by_cases c3 : a1 = (1 : Int32)
    · replace h := z_ip c3 h
      refine v_tabAt o (1 : Int32) 36 dX10_awaits_1 c3 (by decide) (by decide) rfl (by decide) ?_
      refine v_aload_n o dX10_awaits_36 rfl 0 rfl ?_
      obtain ⟨n4, h⟩ := z_gK_of h
      refine gt_10_6 o hK0 ln_3_33 (by rw [n4]; decide) dX10_awaits_37 ?_
      obtain ⟨r6, he5, h⟩ := z_bind h
      refine v_callV o yw_X9_wantedVersion ln_4_180 wi_X9_wantedVersion ws_X9_wantedVersion hX (by decide) 9 rfl n4 (As := []) rfl rfl (Nat.le_of_ble_eq_true rfl) (e_X9_wantedVersion n4 he5) dX10_awaits_40 ?_
      have hr := z_some h
      subst hr
      exact v_ireturn o dX10_awaits_43
    · replace h := z_in c3 h
      by_cases c7 : a1 = (2 : Int32)
      · replace h := z_ip c7 h
        refine v_tabAt o (2 : Int32) 44 dX10_awaits_1 c7 (by decide) (by decide) rfl (by decide) ?_
        refine v_aload_n o dX10_awaits_44 rfl 0 rfl ?_
        obtain ⟨n8, h⟩ := z_gK_of h
        refine gt_10_6 o hK0 ln_3_33 (by rw [n8]; decide) dX10_awaits_45 ?_
        refine gt_9_7 o n8 ln_3_1 dX10_awaits_48 ?_
        have hr := z_some h
        subst hr
        exact v_ireturn o dX10_awaits_51
      · replace h := z_in c7 h
        refine v_tabOut o 52 dX10_awaits_1 ?_ (by decide) ?_
        · by_cases hl : (a1).toInt < 0
          · exact Or.inl hl
          · by_cases hu : 2 < (a1).toInt
            · exact Or.inr hu
            · exfalso
              have hh : (a1).toInt = 0 ∨ (a1).toInt = 1 ∨ (a1).toInt = 2 := by omega
              rcases hh with hh | hh | hh
              · exact c1 (z_i32 hh (by decide))
              · exact c3 (z_i32 hh (by decide))
              · exact c7 (z_i32 hh (by decide))
        · refine v_iconst o (-1 : Int32) dX10_awaits_52 (by decide) ?_
          have hr := z_some h
          subst hr
          exact v_ireturn o dX10_awaits_53
theorem e_X10_awaits {q : z_Q} {l : Launch} {G : z_G} {D : z_D} {a0 : Nat} {a1 : Int32} {r : Int32} (hK0 : z_K G a0 = 110) (h : f_X10_awaits G D a0 a1 = some r) : z_E q l yX10_awaits cX10_awaits 2 (some .int) 5 0 0 [.ref (z_w q a0), .int a1] G D (some (.int r)) G D :=
  z_E.of (by decide) (Nat.le_of_ble_eq_true rfl) (fun X hX _ o => b_X10_awaits o hX hK0 h)
def j_X10_stop_28 (G : z_G) (D : z_D) (a0 : Nat) (s0 : Int32) : Option (Int32 × z_D) :=
  z_gK G 109 (z_R G 1006 a0) ((f_X9_giveUp G D (z_R G 1006 a0)).bind (fun D11 => ((some (s0, D11)))))
set_option maxRecDepth 100000 in
set_option maxHeartbeats 4000000 in
theorem tj_X10_stop_28 {q : z_Q} {X : z_X} {G : z_G} {D : z_D} {a0 : Nat} {s0 : Int32} {r : Int32} {D1 : z_D} (o : z_O q X cX10_stop 2 "FlashTrust" "stop" (some .int)) (hX : x_R X = z_rm 1 0 0) (hK0 : z_K G a0 = 110) (h : j_X10_stop_28 G D a0 s0 = some (r, D1)) : z_V q X 2 (z_F q X (some (.int r)) G D1 0 0) 0 0 G D 28 [(0, .ref (z_w q a0))] [.int s0] := by
  unfold j_X10_stop_28 at h
  refine v_istore_n o [(1, .int s0), (0, .ref (z_w q a0))] dX10_stop_28 rfl (by decide) rfl ?_
  refine v_aload_n o dX10_stop_29 rfl 1 rfl ?_
  obtain ⟨n9, h⟩ := z_gK_of h
  refine gt_10_6 o hK0 ln_3_33 (by rw [n9]; decide) dX10_stop_30 ?_
  obtain ⟨D11, he10, h⟩ := z_bind h
  refine v_callV o yw_X9_giveUp ln_4_163 wi_X9_giveUp ws_X9_giveUp hX (by decide) 9 rfl n9 (As := []) rfl rfl (Nat.le_of_ble_eq_true rfl) (e_X9_giveUp n9 he10) dX10_stop_33 ?_
  refine v_iload_n o dX10_stop_36 rfl 0 rfl ?_
  obtain ⟨hr, hs⟩ := Prod.mk.inj (z_some h)
  subst hr
  subst hs
  exact v_ireturn o dX10_stop_37
def f_X10_stop (G : z_G) (D : z_D) (a0 : Nat) : Option (Int32 × z_D) :=
  z_gK G 101 (z_R G 1002 a0) ((f_X1_isDown G D (z_R G 1002 a0)).bind (fun r3 => ((if r3 = (0 : Int32) then (z_gK G 109 (z_R G 1006 a0) ((f_X9_goesOn G D (z_R G 1006 a0)).bind (fun r7 => ((if r7 = (0 : Int32) then ((j_X10_stop_28 G D  a0 (0 : Int32))) else ((j_X10_stop_28 G D  a0 (1 : Int32)))))))) else ((some ((-3 : Int32), D)))))))
set_option maxRecDepth 100000 in
set_option maxHeartbeats 4000000 in
theorem b_X10_stop {q : z_Q} {X : z_X} {G : z_G} {D : z_D} {a0 : Nat} {r : Int32} {D1 : z_D} (o : z_O q X cX10_stop 2 "FlashTrust" "stop" (some .int)) (hX : x_R X = z_rm 1 0 0) (hK0 : z_K G a0 = 110) (h : f_X10_stop G D a0 = some (r, D1)) : z_V q X 2 (z_F q X (some (.int r)) G D1 0 0) 0 0 G D 0 [(0, .ref (z_w q a0))] [] := by
  unfold f_X10_stop at h
  refine v_aload_n o dX10_stop_0 rfl 0 rfl ?_
  obtain ⟨n1, h⟩ := z_gK_of h
  refine gt_10_2 o hK0 ln_3_29 (by rw [n1]; decide) dX10_stop_1 ?_
  obtain ⟨r3, he2, h⟩ := z_bind h
  refine v_callV o yw_X1_isDown ln_3_184 wi_X1_isDown ws_X1_isDown hX (by decide) 1 rfl n1 (As := []) rfl rfl (Nat.le_of_ble_eq_true rfl) (e_X1_isDown n1 he2) dX10_stop_4 ?_
  refine v_if_eq o 13 dX10_stop_7 (by decide) (fun c4 => ?_) (fun c4 => ?_)
  · replace h := z_ip c4 h
    refine v_aload_n o dX10_stop_13 rfl 0 rfl ?_
    obtain ⟨n5, h⟩ := z_gK_of h
    refine gt_10_6 o hK0 ln_3_33 (by rw [n5]; decide) dX10_stop_14 ?_
    obtain ⟨r7, he6, h⟩ := z_bind h
    refine v_callV o yw_X9_goesOn ln_3_188 wi_X9_goesOn ws_X9_goesOn hX (by decide) 9 rfl n5 (As := []) rfl rfl (Nat.le_of_ble_eq_true rfl) (e_X9_goesOn n5 he6) dX10_stop_17 ?_
    refine v_if_eq o 27 dX10_stop_20 (by decide) (fun c8 => ?_) (fun c8 => ?_)
    · replace h := z_ip c8 h
      refine v_iconst o (0 : Int32) dX10_stop_27 (by decide) ?_
      exact tj_X10_stop_28 o hX hK0 h
    · replace h := z_in c8 h
      refine v_iconst o (1 : Int32) dX10_stop_23 (by decide) ?_
      refine v_goto o 28 dX10_stop_24 (by decide) ?_
      exact tj_X10_stop_28 o hX hK0 h
  · replace h := z_in c4 h
    refine v_bipush o (-3 : Int32) dX10_stop_10 (by decide) ?_
    obtain ⟨hr, hs⟩ := Prod.mk.inj (z_some h)
    subst hr
    subst hs
    exact v_ireturn o dX10_stop_12
theorem e_X10_stop {q : z_Q} {l : Launch} {G : z_G} {D : z_D} {a0 : Nat} {r : Int32} {D1 : z_D} (hK0 : z_K G a0 = 110) (h : f_X10_stop G D a0 = some (r, D1)) : z_E q l yX10_stop cX10_stop 2 (some .int) 1 0 0 [.ref (z_w q a0)] G D (some (.int r)) G D1 :=
  z_E.of (by decide) (Nat.le_of_ble_eq_true rfl) (fun X hX _ o => b_X10_stop o hX hK0 h)
def f_X10_power (G : z_G) (D : z_D) (a0 : Nat) (a1 : Int32) (a2 : Int32) : Option (Int32 × z_D) :=
  (if a1 < (-1 : Int32) then ((some ((-1 : Int32), D))) else ((if a1 ≤ (500 : Int32) then (z_gK G 101 (z_R G 1002 a0) ((f_X1_tellCut G D (z_R G 1002 a0) a1 a2).bind (fun D5 => ((some ((1 : Int32), D5)))))) else ((some ((-1 : Int32), D))))))
set_option maxRecDepth 100000 in
set_option maxHeartbeats 4000000 in
theorem b_X10_power {q : z_Q} {X : z_X} {G : z_G} {D : z_D} {a0 : Nat} {a1 : Int32} {a2 : Int32} {r : Int32} {D1 : z_D} (o : z_O q X cX10_power 3 "FlashTrust" "power" (some .int)) (hX : x_R X = z_rm 1 0 0) (hK0 : z_K G a0 = 110) (h : f_X10_power G D a0 a1 a2 = some (r, D1)) : z_V q X 3 (z_F q X (some (.int r)) G D1 0 0) 0 0 G D 0 [(0, .ref (z_w q a0)), (1, .int a1), (2, .int a2)] [] := by
  unfold f_X10_power at h
  refine v_iload_n o dX10_power_0 rfl 1 rfl ?_
  refine v_iconst o (-1 : Int32) dX10_power_1 (by decide) ?_
  refine v_icmp_lt o 12 dX10_power_2 (by decide) (fun c1 => ?_) (fun c1 => ?_)
  · replace h := z_ip c1 h
    refine v_iconst o (-1 : Int32) dX10_power_12 (by decide) ?_
    obtain ⟨hr, hs⟩ := Prod.mk.inj (z_some h)
    subst hr
    subst hs
    exact v_ireturn o dX10_power_13
  · replace h := z_in c1 h
    refine v_iload_n o dX10_power_5 rfl 1 rfl ?_
    refine v_sipush o (500 : Int32) dX10_power_6 (by decide) ?_
    refine v_icmp_le o 14 dX10_power_9 (by decide) (fun c2 => ?_) (fun c2 => ?_)
    · replace h := z_ip c2 h
      refine v_aload_n o dX10_power_14 rfl 0 rfl ?_
      obtain ⟨n3, h⟩ := z_gK_of h
      refine gt_10_2 o hK0 ln_3_29 (by rw [n3]; decide) dX10_power_15 ?_
      refine v_iload_n o dX10_power_18 rfl 1 rfl ?_
      refine v_iload_n o dX10_power_19 rfl 2 rfl ?_
      obtain ⟨D5, he4, h⟩ := z_bind h
      refine v_callV o yw_X1_tellCut ln_4_192 wi_X1_tellCut ws_X1_tellCut hX (by decide) 1 rfl n3 (As := [.int a1, .int a2]) rfl rfl (Nat.le_of_ble_eq_true rfl) (e_X1_tellCut n3 he4) dX10_power_20 ?_
      refine v_iconst o (1 : Int32) dX10_power_23 (by decide) ?_
      obtain ⟨hr, hs⟩ := Prod.mk.inj (z_some h)
      subst hr
      subst hs
      exact v_ireturn o dX10_power_24
    · replace h := z_in c2 h
      refine v_iconst o (-1 : Int32) dX10_power_12 (by decide) ?_
      obtain ⟨hr, hs⟩ := Prod.mk.inj (z_some h)
      subst hr
      subst hs
      exact v_ireturn o dX10_power_13
theorem e_X10_power {q : z_Q} {l : Launch} {G : z_G} {D : z_D} {a0 : Nat} {a1 : Int32} {a2 : Int32} {r : Int32} {D1 : z_D} (hK0 : z_K G a0 = 110) (h : f_X10_power G D a0 a1 a2 = some (r, D1)) : z_E q l yX10_power cX10_power 3 (some .int) 1 0 0 [.ref (z_w q a0), .int a1, .int a2] G D (some (.int r)) G D1 :=
  z_E.of (by decide) (Nat.le_of_ble_eq_true rfl) (fun X hX _ o => b_X10_power o hX hK0 h)
def f_X10_boot (G : z_G) (D : z_D) (a0 : Nat) : Option (Int32 × z_D) :=
  z_gK G 109 (z_R G 1006 a0) ((f_X9_giveUp G D (z_R G 1006 a0)).bind (fun D3 => (z_gK G 101 (z_R G 1002 a0) ((f_X1_switchOn G D3 (z_R G 1002 a0)).bind (fun D6 => (z_gK G 102 (z_R G 1005 a0) ((f_X2_start G D6 (z_R G 1005 a0)).bind (fun p9 => ((f_X10_unlessDown G p9.2 a0 p9.1).bind (fun p11 => ((some (p11.1, p11.2)))))))))))))
set_option maxRecDepth 100000 in
set_option maxHeartbeats 4000000 in
theorem b_X10_boot {q : z_Q} {X : z_X} {G : z_G} {D : z_D} {a0 : Nat} {r : Int32} {D1 : z_D} (o : z_O q X cX10_boot 1 "FlashTrust" "boot" (some .int)) (hX : x_R X = z_rm 6 0 0) (hK0 : z_K G a0 = 110) (h : f_X10_boot G D a0 = some (r, D1)) : z_V q X 1 (z_F q X (some (.int r)) G D1 0 0) 0 0 G D 0 [(0, .ref (z_w q a0))] [] := by
  unfold f_X10_boot at h
  refine v_aload_n o dX10_boot_0 rfl 0 rfl ?_
  obtain ⟨n1, h⟩ := z_gK_of h
  refine gt_10_6 o hK0 ln_3_33 (by rw [n1]; decide) dX10_boot_1 ?_
  obtain ⟨D3, he2, h⟩ := z_bind h
  refine v_callV o yw_X9_giveUp ln_4_163 wi_X9_giveUp ws_X9_giveUp hX (by decide) 9 rfl n1 (As := []) rfl rfl (Nat.le_of_ble_eq_true rfl) (e_X9_giveUp n1 he2) dX10_boot_4 ?_
  refine v_aload_n o dX10_boot_7 rfl 0 rfl ?_
  obtain ⟨n4, h⟩ := z_gK_of h
  refine gt_10_2 o hK0 ln_3_29 (by rw [n4]; decide) dX10_boot_8 ?_
  obtain ⟨D6, he5, h⟩ := z_bind h
  refine v_callV o yw_X1_switchOn ln_4_200 wi_X1_switchOn ws_X1_switchOn hX (by decide) 1 rfl n4 (As := []) rfl rfl (Nat.le_of_ble_eq_true rfl) (e_X1_switchOn n4 he5) dX10_boot_11 ?_
  refine v_aload_n o dX10_boot_14 rfl 0 rfl ?_
  refine v_aload_n o dX10_boot_15 rfl 0 rfl ?_
  obtain ⟨n7, h⟩ := z_gK_of h
  refine gt_10_5 o hK0 ln_3_32 (by rw [n7]; decide) dX10_boot_16 ?_
  obtain ⟨p9, he8, h⟩ := z_bind h
  refine v_callV o yw_X2_start ln_4_204 wi_X2_start ws_X2_start hX (by decide) 2 rfl n7 (As := []) rfl rfl (Nat.le_of_ble_eq_true rfl) (e_X2_start n7 he8) dX10_boot_19 ?_
  obtain ⟨p11, he10, h⟩ := z_bind h
  refine v_callV o yw_X10_unlessDown ln_4_159 wi_X10_unlessDown ws_X10_unlessDown hX (by decide) 10 rfl hK0 (As := [.int p9.1]) rfl rfl (Nat.le_of_ble_eq_true rfl) (e_X10_unlessDown hK0 he10) dX10_boot_22 ?_
  obtain ⟨hr, hs⟩ := Prod.mk.inj (z_some h)
  subst hr
  subst hs
  exact v_ireturn o dX10_boot_25
theorem e_X10_boot {q : z_Q} {l : Launch} {G : z_G} {D : z_D} {a0 : Nat} {r : Int32} {D1 : z_D} (hK0 : z_K G a0 = 110) (h : f_X10_boot G D a0 = some (r, D1)) : z_E q l yX10_boot cX10_boot 1 (some .int) 6 0 0 [.ref (z_w q a0)] G D (some (.int r)) G D1 :=
  z_E.of (by decide) (Nat.le_of_ble_eq_true rfl) (fun X hX _ o => b_X10_boot o hX hK0 h)
def f_X10_test (G : z_G) (D : z_D) (a0 : Nat) (a1 : Int32) : Option (Int32 × z_D) :=
  z_gK G 101 (z_R G 1002 a0) ((f_X1_isDown G D (z_R G 1002 a0)).bind (fun r3 => ((if r3 = (0 : Int32) then (z_gK G 102 (z_R G 1005 a0) ((if (z_I D 203 (z_R G 1005 a0)) = (0 : Int32) then ((some ((-4 : Int32), D))) else ((if a1 = (0 : Int32) then ((f_X2_reject G D (z_R G 1005 a0)).bind (fun p9 => ((f_X10_unlessDown G p9.2 a0 p9.1).bind (fun p11 => ((some (p11.1, p11.2))))))) else ((f_X2_confirm G D (z_R G 1005 a0)).bind (fun p13 => (((f_X10_unlessDown G p13.2 a0 p13.1).bind (fun p15 => ((some (p15.1, p15.2))))))))))))) else ((some ((-3 : Int32), D)))))))
set_option maxRecDepth 100000 in
set_option maxHeartbeats 4000000 in
theorem b_X10_test {q : z_Q} {X : z_X} {G : z_G} {D : z_D} {a0 : Nat} {a1 : Int32} {r : Int32} {D1 : z_D} (o : z_O q X cX10_test 2 "FlashTrust" "test" (some .int)) (hX : x_R X = z_rm 5 0 0) (hK0 : z_K G a0 = 110) (h : f_X10_test G D a0 a1 = some (r, D1)) : z_V q X 2 (z_F q X (some (.int r)) G D1 0 0) 0 0 G D 0 [(0, .ref (z_w q a0)), (1, .int a1)] [] := by
  unfold f_X10_test at h
  refine v_aload_n o dX10_test_0 rfl 0 rfl ?_
  obtain ⟨n1, h⟩ := z_gK_of h
  refine gt_10_2 o hK0 ln_3_29 (by rw [n1]; decide) dX10_test_1 ?_
  obtain ⟨r3, he2, h⟩ := z_bind h
  refine v_callV o yw_X1_isDown ln_3_184 wi_X1_isDown ws_X1_isDown hX (by decide) 1 rfl n1 (As := []) rfl rfl (Nat.le_of_ble_eq_true rfl) (e_X1_isDown n1 he2) dX10_test_4 ?_
  refine v_if_eq o 13 dX10_test_7 (by decide) (fun c4 => ?_) (fun c4 => ?_)
  · replace h := z_ip c4 h
    refine v_aload_n o dX10_test_13 rfl 0 rfl ?_
    obtain ⟨n5, h⟩ := z_gK_of h
    refine gt_10_5 o hK0 ln_3_32 (by rw [n5]; decide) dX10_test_14 ?_
    refine gt_2_3 o n5 ln_2_212 dX10_test_17 ?_
    refine v_if_ne o 26 dX10_test_20 (by decide) (fun c6 => ?_) (fun c6 => ?_)
    · replace h := z_in c6 h
      refine v_aload_n o dX10_test_26 rfl 0 rfl ?_
      refine v_iload_n o dX10_test_27 rfl 1 rfl ?_
      refine v_if_eq o 41 dX10_test_28 (by decide) (fun c7 => ?_) (fun c7 => ?_)
      · replace h := z_ip c7 h
        refine v_aload_n o dX10_test_41 rfl 0 rfl ?_
        refine gt_10_5 o hK0 ln_3_32 (by rw [n5]; decide) dX10_test_42 ?_
        obtain ⟨p9, he8, h⟩ := z_bind h
        refine v_callV o yw_X2_reject ln_4_236 wi_X2_reject ws_X2_reject hX (by decide) 2 rfl n5 (As := []) rfl rfl (Nat.le_of_ble_eq_true rfl) (e_X2_reject n5 he8) dX10_test_45 ?_
        obtain ⟨p11, he10, h⟩ := z_bind h
        refine v_callV o yw_X10_unlessDown ln_4_159 wi_X10_unlessDown ws_X10_unlessDown hX (by decide) 10 rfl hK0 (As := [.int p9.1]) rfl rfl (Nat.le_of_ble_eq_true rfl) (e_X10_unlessDown hK0 he10) dX10_test_48 ?_
        obtain ⟨hr, hs⟩ := Prod.mk.inj (z_some h)
        subst hr
        subst hs
        exact v_ireturn o dX10_test_51
      · replace h := z_in c7 h
        refine v_aload_n o dX10_test_31 rfl 0 rfl ?_
        refine gt_10_5 o hK0 ln_3_32 (by rw [n5]; decide) dX10_test_32 ?_
        obtain ⟨p13, he12, h⟩ := z_bind h
        refine v_callV o yw_X2_confirm ln_4_226 wi_X2_confirm ws_X2_confirm hX (by decide) 2 rfl n5 (As := []) rfl rfl (Nat.le_of_ble_eq_true rfl) (e_X2_confirm n5 he12) dX10_test_35 ?_
        refine v_goto o 48 dX10_test_38 (by decide) ?_
        obtain ⟨p15, he14, h⟩ := z_bind h
        refine v_callV o yw_X10_unlessDown ln_4_159 wi_X10_unlessDown ws_X10_unlessDown hX (by decide) 10 rfl hK0 (As := [.int p13.1]) rfl rfl (Nat.le_of_ble_eq_true rfl) (e_X10_unlessDown hK0 he14) dX10_test_48 ?_
        obtain ⟨hr, hs⟩ := Prod.mk.inj (z_some h)
        subst hr
        subst hs
        exact v_ireturn o dX10_test_51
    · replace h := z_ip c6 h
      refine v_bipush o (-4 : Int32) dX10_test_23 (by decide) ?_
      obtain ⟨hr, hs⟩ := Prod.mk.inj (z_some h)
      subst hr
      subst hs
      exact v_ireturn o dX10_test_25
  · replace h := z_in c4 h
    refine v_bipush o (-3 : Int32) dX10_test_10 (by decide) ?_
    obtain ⟨hr, hs⟩ := Prod.mk.inj (z_some h)
    subst hr
    subst hs
    exact v_ireturn o dX10_test_12
theorem e_X10_test {q : z_Q} {l : Launch} {G : z_G} {D : z_D} {a0 : Nat} {a1 : Int32} {r : Int32} {D1 : z_D} (hK0 : z_K G a0 = 110) (h : f_X10_test G D a0 a1 = some (r, D1)) : z_E q l yX10_test cX10_test 2 (some .int) 5 0 0 [.ref (z_w q a0), .int a1] G D (some (.int r)) G D1 :=
  z_E.of (by decide) (Nat.le_of_ble_eq_true rfl) (fun X hX _ o => b_X10_test o hX hK0 h)
def f_X10_told (G : z_G) (D : z_D) (a0 : Nat) (a1 : Int32) : Option (Int32) :=
  (if a1 = (0 : Int32) then (z_gK G 101 (z_R G 1002 a0) ((f_X1_isDown G D (z_R G 1002 a0)).bind (fun r4 => ((if r4 = (0 : Int32) then ((some (0 : Int32))) else (((some (1 : Int32))))))))) else (if a1 = (1 : Int32) then (z_gK G 102 (z_R G 1005 a0) ((some (z_I D 202 (z_R G 1005 a0))))) else (if a1 = (2 : Int32) then (z_gK G 102 (z_R G 1005 a0) ((if (z_I D 203 (z_R G 1005 a0)) = (0 : Int32) then ((some (0 : Int32))) else (((some (1 : Int32))))))) else (if a1 = (3 : Int32) then (z_gK G 108 (z_R G 1004 a0) ((f_X8_tell G D (z_R G 1004 a0) a1).bind (fun r14 => ((some r14))))) else (if a1 = (4 : Int32) then (z_gK G 108 (z_R G 1004 a0) ((f_X8_tell G D (z_R G 1004 a0) a1).bind (fun r18 => ((some r18))))) else (if a1 = (5 : Int32) then (z_gK G 108 (z_R G 1004 a0) ((f_X8_tell G D (z_R G 1004 a0) a1).bind (fun r22 => ((some r22))))) else (if a1 = (6 : Int32) then (z_gK G 108 (z_R G 1004 a0) ((f_X8_tell G D (z_R G 1004 a0) a1).bind (fun r26 => ((some r26))))) else (if a1 = (7 : Int32) then (z_gK G 108 (z_R G 1004 a0) ((f_X8_tell G D (z_R G 1004 a0) a1).bind (fun r30 => ((some r30))))) else (if a1 = (8 : Int32) then (z_gK G 108 (z_R G 1004 a0) ((f_X8_tell G D (z_R G 1004 a0) a1).bind (fun r34 => ((some r34))))) else (if a1 = (9 : Int32) then (z_gK G 108 (z_R G 1004 a0) ((f_X8_tell G D (z_R G 1004 a0) a1).bind (fun r38 => ((some r38))))) else (if a1 = (10 : Int32) then (z_gK G 101 (z_R G 1002 a0) ((some (z_I D 101 (z_R G 1002 a0))))) else (if a1 = (11 : Int32) then (z_gK G 101 (z_R G 1002 a0) ((some (z_I D 102 (z_R G 1002 a0))))) else (if a1 = (12 : Int32) then (z_gK G 101 (z_R G 1002 a0) ((some (z_I D 103 (z_R G 1002 a0))))) else (if a1 = (13 : Int32) then (z_gK G 109 (z_R G 1006 a0) ((some (z_I D 909 (z_R G 1006 a0))))) else (if a1 = (14 : Int32) then (z_gK G 109 (z_R G 1006 a0) ((some (z_I D 908 (z_R G 1006 a0))))) else (z_gK G 108 (z_R G 1004 a0) ((f_X8_tell G D (z_R G 1004 a0) a1).bind (fun r51 => ((some r51))))))))))))))))))))
set_option maxRecDepth 100000 in
set_option maxHeartbeats 4000000 in
theorem b_X10_told {q : z_Q} {X : z_X} {G : z_G} {D : z_D} {a0 : Nat} {a1 : Int32} {r : Int32} (o : z_O q X cX10_told 2 "FlashTrust" "told" (some .int)) (hX : x_R X = z_rm 1 0 0) (hK0 : z_K G a0 = 110) (h : f_X10_told G D a0 a1 = some r) : z_V q X 2 (z_F q X (some (.int r)) G D 0 0) 0 0 G D 0 [(0, .ref (z_w q a0)), (1, .int a1)] [] := by
  unfold f_X10_told at h
  refine v_iload_n o dX10_told_0 rfl 1 rfl ?_
  by_cases c1 : a1 = (0 : Int32)
  · replace h := z_ip c1 h
    refine v_tabAt o (0 : Int32) 76 dX10_told_1 c1 (by decide) (by decide) rfl (by decide) ?_
    refine v_aload_n o dX10_told_76 rfl 0 rfl ?_
    obtain ⟨n2, h⟩ := z_gK_of h
    refine gt_10_2 o hK0 ln_3_29 (by rw [n2]; decide) dX10_told_77 ?_
    obtain ⟨r4, he3, h⟩ := z_bind h
    refine v_callV o yw_X1_isDown ln_3_184 wi_X1_isDown ws_X1_isDown hX (by decide) 1 rfl n2 (As := []) rfl rfl (Nat.le_of_ble_eq_true rfl) (e_X1_isDown n2 he3) dX10_told_80 ?_
    refine v_if_eq o 90 dX10_told_83 (by decide) (fun c5 => ?_) (fun c5 => ?_)
    · replace h := z_ip c5 h
      refine v_iconst o (0 : Int32) dX10_told_90 (by decide) ?_
      have hr := z_some h
      subst hr
      exact v_ireturn o dX10_told_91
    · replace h := z_in c5 h
      refine v_iconst o (1 : Int32) dX10_told_86 (by decide) ?_
      refine v_goto o 91 dX10_told_87 (by decide) ?_
      have hr := z_some h
      subst hr
      exact v_ireturn o dX10_told_91
  · replace h := z_in c1 h
    by_cases c6 : a1 = (1 : Int32)
    · replace h := z_ip c6 h
      refine v_tabAt o (1 : Int32) 92 dX10_told_1 c6 (by decide) (by decide) rfl (by decide) ?_
      refine v_aload_n o dX10_told_92 rfl 0 rfl ?_
      obtain ⟨n7, h⟩ := z_gK_of h
      refine gt_10_5 o hK0 ln_3_32 (by rw [n7]; decide) dX10_told_93 ?_
      refine gt_2_2 o n7 ln_2_210 dX10_told_96 ?_
      have hr := z_some h
      subst hr
      exact v_ireturn o dX10_told_99
    · replace h := z_in c6 h
      by_cases c8 : a1 = (2 : Int32)
      · replace h := z_ip c8 h
        refine v_tabAt o (2 : Int32) 100 dX10_told_1 c8 (by decide) (by decide) rfl (by decide) ?_
        refine v_aload_n o dX10_told_100 rfl 0 rfl ?_
        obtain ⟨n9, h⟩ := z_gK_of h
        refine gt_10_5 o hK0 ln_3_32 (by rw [n9]; decide) dX10_told_101 ?_
        refine gt_2_3 o n9 ln_2_212 dX10_told_104 ?_
        refine v_if_eq o 114 dX10_told_107 (by decide) (fun c10 => ?_) (fun c10 => ?_)
        · replace h := z_ip c10 h
          refine v_iconst o (0 : Int32) dX10_told_114 (by decide) ?_
          have hr := z_some h
          subst hr
          exact v_ireturn o dX10_told_115
        · replace h := z_in c10 h
          refine v_iconst o (1 : Int32) dX10_told_110 (by decide) ?_
          refine v_goto o 115 dX10_told_111 (by decide) ?_
          have hr := z_some h
          subst hr
          exact v_ireturn o dX10_told_115
      · replace h := z_in c8 h
        by_cases c11 : a1 = (3 : Int32)
        · replace h := z_ip c11 h
          refine v_tabAt o (3 : Int32) 156 dX10_told_1 c11 (by decide) (by decide) rfl (by decide) ?_
          refine v_aload_n o dX10_told_156 rfl 0 rfl ?_
          obtain ⟨n12, h⟩ := z_gK_of h
          refine gt_10_4 o hK0 ln_3_31 (by rw [n12]; decide) dX10_told_157 ?_
          refine v_iload_n o dX10_told_160 rfl 1 rfl ?_
          obtain ⟨r14, he13, h⟩ := z_bind h
          refine v_callV o yw_X8_tell ln_5_4 wi_X8_tell ws_X8_tell hX (by decide) 8 rfl n12 (As := [.int a1]) rfl rfl (Nat.le_of_ble_eq_true rfl) (e_X8_tell n12 he13) dX10_told_161 ?_
          have hr := z_some h
          subst hr
          exact v_ireturn o dX10_told_164
        · replace h := z_in c11 h
          by_cases c15 : a1 = (4 : Int32)
          · replace h := z_ip c15 h
            refine v_tabAt o (4 : Int32) 156 dX10_told_1 c15 (by decide) (by decide) rfl (by decide) ?_
            refine v_aload_n o dX10_told_156 rfl 0 rfl ?_
            obtain ⟨n16, h⟩ := z_gK_of h
            refine gt_10_4 o hK0 ln_3_31 (by rw [n16]; decide) dX10_told_157 ?_
            refine v_iload_n o dX10_told_160 rfl 1 rfl ?_
            obtain ⟨r18, he17, h⟩ := z_bind h
            refine v_callV o yw_X8_tell ln_5_4 wi_X8_tell ws_X8_tell hX (by decide) 8 rfl n16 (As := [.int a1]) rfl rfl (Nat.le_of_ble_eq_true rfl) (e_X8_tell n16 he17) dX10_told_161 ?_
            have hr := z_some h
            subst hr
            exact v_ireturn o dX10_told_164
          · replace h := z_in c15 h
            by_cases c19 : a1 = (5 : Int32)
            · replace h := z_ip c19 h
              refine v_tabAt o (5 : Int32) 156 dX10_told_1 c19 (by decide) (by decide) rfl (by decide) ?_
              refine v_aload_n o dX10_told_156 rfl 0 rfl ?_
              obtain ⟨n20, h⟩ := z_gK_of h
              refine gt_10_4 o hK0 ln_3_31 (by rw [n20]; decide) dX10_told_157 ?_
              refine v_iload_n o dX10_told_160 rfl 1 rfl ?_
              obtain ⟨r22, he21, h⟩ := z_bind h
              refine v_callV o yw_X8_tell ln_5_4 wi_X8_tell ws_X8_tell hX (by decide) 8 rfl n20 (As := [.int a1]) rfl rfl (Nat.le_of_ble_eq_true rfl) (e_X8_tell n20 he21) dX10_told_161 ?_
              have hr := z_some h
              subst hr
              exact v_ireturn o dX10_told_164
            · replace h := z_in c19 h
              by_cases c23 : a1 = (6 : Int32)
              · replace h := z_ip c23 h
                refine v_tabAt o (6 : Int32) 156 dX10_told_1 c23 (by decide) (by decide) rfl (by decide) ?_
                refine v_aload_n o dX10_told_156 rfl 0 rfl ?_
                obtain ⟨n24, h⟩ := z_gK_of h
                refine gt_10_4 o hK0 ln_3_31 (by rw [n24]; decide) dX10_told_157 ?_
                refine v_iload_n o dX10_told_160 rfl 1 rfl ?_
                obtain ⟨r26, he25, h⟩ := z_bind h
                refine v_callV o yw_X8_tell ln_5_4 wi_X8_tell ws_X8_tell hX (by decide) 8 rfl n24 (As := [.int a1]) rfl rfl (Nat.le_of_ble_eq_true rfl) (e_X8_tell n24 he25) dX10_told_161 ?_
                have hr := z_some h
                subst hr
                exact v_ireturn o dX10_told_164
              · replace h := z_in c23 h
                by_cases c27 : a1 = (7 : Int32)
                · replace h := z_ip c27 h
                  refine v_tabAt o (7 : Int32) 156 dX10_told_1 c27 (by decide) (by decide) rfl (by decide) ?_
                  refine v_aload_n o dX10_told_156 rfl 0 rfl ?_
                  obtain ⟨n28, h⟩ := z_gK_of h
                  refine gt_10_4 o hK0 ln_3_31 (by rw [n28]; decide) dX10_told_157 ?_
                  refine v_iload_n o dX10_told_160 rfl 1 rfl ?_
                  obtain ⟨r30, he29, h⟩ := z_bind h
                  refine v_callV o yw_X8_tell ln_5_4 wi_X8_tell ws_X8_tell hX (by decide) 8 rfl n28 (As := [.int a1]) rfl rfl (Nat.le_of_ble_eq_true rfl) (e_X8_tell n28 he29) dX10_told_161 ?_
                  have hr := z_some h
                  subst hr
                  exact v_ireturn o dX10_told_164
                · replace h := z_in c27 h
                  by_cases c31 : a1 = (8 : Int32)
                  · replace h := z_ip c31 h
                    refine v_tabAt o (8 : Int32) 156 dX10_told_1 c31 (by decide) (by decide) rfl (by decide) ?_
                    refine v_aload_n o dX10_told_156 rfl 0 rfl ?_
                    obtain ⟨n32, h⟩ := z_gK_of h
                    refine gt_10_4 o hK0 ln_3_31 (by rw [n32]; decide) dX10_told_157 ?_
                    refine v_iload_n o dX10_told_160 rfl 1 rfl ?_
                    obtain ⟨r34, he33, h⟩ := z_bind h
                    refine v_callV o yw_X8_tell ln_5_4 wi_X8_tell ws_X8_tell hX (by decide) 8 rfl n32 (As := [.int a1]) rfl rfl (Nat.le_of_ble_eq_true rfl) (e_X8_tell n32 he33) dX10_told_161 ?_
                    have hr := z_some h
                    subst hr
                    exact v_ireturn o dX10_told_164
                  · replace h := z_in c31 h
                    by_cases c35 : a1 = (9 : Int32)
                    · replace h := z_ip c35 h
                      refine v_tabAt o (9 : Int32) 156 dX10_told_1 c35 (by decide) (by decide) rfl (by decide) ?_
                      refine v_aload_n o dX10_told_156 rfl 0 rfl ?_
                      obtain ⟨n36, h⟩ := z_gK_of h
                      refine gt_10_4 o hK0 ln_3_31 (by rw [n36]; decide) dX10_told_157 ?_
                      refine v_iload_n o dX10_told_160 rfl 1 rfl ?_
                      obtain ⟨r38, he37, h⟩ := z_bind h
                      refine v_callV o yw_X8_tell ln_5_4 wi_X8_tell ws_X8_tell hX (by decide) 8 rfl n36 (As := [.int a1]) rfl rfl (Nat.le_of_ble_eq_true rfl) (e_X8_tell n36 he37) dX10_told_161 ?_
                      have hr := z_some h
                      subst hr
                      exact v_ireturn o dX10_told_164
                    · replace h := z_in c35 h
                      by_cases c39 : a1 = (10 : Int32)
                      · replace h := z_ip c39 h
                        refine v_tabAt o (10 : Int32) 116 dX10_told_1 c39 (by decide) (by decide) rfl (by decide) ?_
                        refine v_aload_n o dX10_told_116 rfl 0 rfl ?_
                        obtain ⟨n40, h⟩ := z_gK_of h
                        refine gt_10_2 o hK0 ln_3_29 (by rw [n40]; decide) dX10_told_117 ?_
                        refine gt_1_1 o n40 ln_1_149 dX10_told_120 ?_
                        have hr := z_some h
                        subst hr
                        exact v_ireturn o dX10_told_123
                      · replace h := z_in c39 h
                        by_cases c41 : a1 = (11 : Int32)
                        · replace h := z_ip c41 h
                          refine v_tabAt o (11 : Int32) 124 dX10_told_1 c41 (by decide) (by decide) rfl (by decide) ?_
                          refine v_aload_n o dX10_told_124 rfl 0 rfl ?_
                          obtain ⟨n42, h⟩ := z_gK_of h
                          refine gt_10_2 o hK0 ln_3_29 (by rw [n42]; decide) dX10_told_125 ?_
                          refine gt_1_2 o n42 ln_1_151 dX10_told_128 ?_
                          have hr := z_some h
                          subst hr
                          exact v_ireturn o dX10_told_131
                        · replace h := z_in c41 h
                          by_cases c43 : a1 = (12 : Int32)
                          · replace h := z_ip c43 h
                            refine v_tabAt o (12 : Int32) 132 dX10_told_1 c43 (by decide) (by decide) rfl (by decide) ?_
                            refine v_aload_n o dX10_told_132 rfl 0 rfl ?_
                            obtain ⟨n44, h⟩ := z_gK_of h
                            refine gt_10_2 o hK0 ln_3_29 (by rw [n44]; decide) dX10_told_133 ?_
                            refine gt_1_3 o n44 ln_1_153 dX10_told_136 ?_
                            have hr := z_some h
                            subst hr
                            exact v_ireturn o dX10_told_139
                          · replace h := z_in c43 h
                            by_cases c45 : a1 = (13 : Int32)
                            · replace h := z_ip c45 h
                              refine v_tabAt o (13 : Int32) 140 dX10_told_1 c45 (by decide) (by decide) rfl (by decide) ?_
                              refine v_aload_n o dX10_told_140 rfl 0 rfl ?_
                              obtain ⟨n46, h⟩ := z_gK_of h
                              refine gt_10_6 o hK0 ln_3_33 (by rw [n46]; decide) dX10_told_141 ?_
                              refine gt_9_9 o n46 ln_3_5 dX10_told_144 ?_
                              have hr := z_some h
                              subst hr
                              exact v_ireturn o dX10_told_147
                            · replace h := z_in c45 h
                              by_cases c47 : a1 = (14 : Int32)
                              · replace h := z_ip c47 h
                                refine v_tabAt o (14 : Int32) 148 dX10_told_1 c47 (by decide) (by decide) rfl (by decide) ?_
                                refine v_aload_n o dX10_told_148 rfl 0 rfl ?_
                                obtain ⟨n48, h⟩ := z_gK_of h
                                refine gt_10_6 o hK0 ln_3_33 (by rw [n48]; decide) dX10_told_149 ?_
                                refine gt_9_8 o n48 ln_3_3 dX10_told_152 ?_
                                have hr := z_some h
                                subst hr
                                exact v_ireturn o dX10_told_155
                              · replace h := z_in c47 h
                                refine v_tabOut o 156 dX10_told_1 ?_ (by decide) ?_
                                · by_cases hl : (a1).toInt < 0
                                  · exact Or.inl hl
                                  · by_cases hu : 14 < (a1).toInt
                                    · exact Or.inr hu
                                    · exfalso
                                      have hh : (a1).toInt = 0 ∨ (a1).toInt = 1 ∨ (a1).toInt = 2 ∨ (a1).toInt = 3 ∨ (a1).toInt = 4 ∨ (a1).toInt = 5 ∨ (a1).toInt = 6 ∨ (a1).toInt = 7 ∨ (a1).toInt = 8 ∨ (a1).toInt = 9 ∨ (a1).toInt = 10 ∨ (a1).toInt = 11 ∨ (a1).toInt = 12 ∨ (a1).toInt = 13 ∨ (a1).toInt = 14 := by omega
                                      rcases hh with hh | hh | hh | hh | hh | hh | hh | hh | hh | hh | hh | hh | hh | hh | hh
                                      · exact c1 (z_i32 hh (by decide))
                                      · exact c6 (z_i32 hh (by decide))
                                      · exact c8 (z_i32 hh (by decide))
                                      · exact c11 (z_i32 hh (by decide))
                                      · exact c15 (z_i32 hh (by decide))
                                      · exact c19 (z_i32 hh (by decide))
                                      · exact c23 (z_i32 hh (by decide))
                                      · exact c27 (z_i32 hh (by decide))
                                      · exact c31 (z_i32 hh (by decide))
                                      · exact c35 (z_i32 hh (by decide))
                                      · exact c39 (z_i32 hh (by decide))
                                      · exact c41 (z_i32 hh (by decide))
                                      · exact c43 (z_i32 hh (by decide))
                                      · exact c45 (z_i32 hh (by decide))
                                      · exact c47 (z_i32 hh (by decide))
                                · refine v_aload_n o dX10_told_156 rfl 0 rfl ?_
                                  obtain ⟨n49, h⟩ := z_gK_of h
                                  refine gt_10_4 o hK0 ln_3_31 (by rw [n49]; decide) dX10_told_157 ?_
                                  refine v_iload_n o dX10_told_160 rfl 1 rfl ?_
                                  obtain ⟨r51, he50, h⟩ := z_bind h
                                  refine v_callV o yw_X8_tell ln_5_4 wi_X8_tell ws_X8_tell hX (by decide) 8 rfl n49 (As := [.int a1]) rfl rfl (Nat.le_of_ble_eq_true rfl) (e_X8_tell n49 he50) dX10_told_161 ?_
                                  have hr := z_some h
                                  subst hr
                                  exact v_ireturn o dX10_told_164
theorem e_X10_told {q : z_Q} {l : Launch} {G : z_G} {D : z_D} {a0 : Nat} {a1 : Int32} {r : Int32} (hK0 : z_K G a0 = 110) (h : f_X10_told G D a0 a1 = some r) : z_E q l yX10_told cX10_told 2 (some .int) 1 0 0 [.ref (z_w q a0), .int a1] G D (some (.int r)) G D :=
  z_E.of (by decide) (Nat.le_of_ble_eq_true rfl) (fun X hX _ o => b_X10_told o hX hK0 h)
def f_X10_trusted (G : z_G) (D : z_D) (a0 : Nat) (a1 : Int32) (a2 : Int32) (a3 : Int32) : Option (Int32) :=
  (if a1 < (0 : Int32) then ((some (-1 : Int32))) else ((if a1 < (4 : Int32) then (z_gK G 3 (z_R G 1003 a0) (z_gA G 3 (z_R G 1003 a0) a1 (z_gK G 106 (z_A G (z_R G 1003 a0) (a1).toNatClampNeg) ((if a2 = (3 : Int32) then ((f_X6_number G D (z_A G (z_R G 1003 a0) (a1).toNatClampNeg)).bind (fun r18 => ((some r18)))) else ((f_X6_holds G D (z_A G (z_R G 1003 a0) (a1).toNatClampNeg)).bind (fun r9 => ((if r9 = (0 : Int32) then ((if a2 = (0 : Int32) then (((some (-2 : Int32)))) else ((some (-1 : Int32))))) else ((f_X6_paper G D (z_A G (z_R G 1003 a0) (a1).toNatClampNeg)).bind (fun r12 => (z_gK G 104 r12 ((f_X4_tell G D r12 a2 a3).bind (fun r15 => ((some r15)))))))))))))))) else ((some (-1 : Int32))))))
set_option maxRecDepth 100000 in
set_option maxHeartbeats 4000000 in
theorem b_X10_trusted {q : z_Q} {X : z_X} {G : z_G} {D : z_D} {a0 : Nat} {a1 : Int32} {a2 : Int32} {a3 : Int32} {r : Int32} (o : z_O q X cX10_trusted 5 "FlashTrust" "trusted" (some .int)) (hX : x_R X = z_rm 3 0 0) (hK0 : z_K G a0 = 110) (h : f_X10_trusted G D a0 a1 a2 a3 = some r) : z_V q X 5 (z_F q X (some (.int r)) G D 0 0) 0 0 G D 0 [(0, .ref (z_w q a0)), (1, .int a1), (2, .int a2), (3, .int a3)] [] := by
  unfold f_X10_trusted at h
  refine v_iload_n o dX10_trusted_0 rfl 1 rfl ?_
  refine v_if_lt o 9 dX10_trusted_1 (by decide) (fun c1 => ?_) (fun c1 => ?_)
  · replace h := z_ip c1 h
    refine v_iconst o (-1 : Int32) dX10_trusted_9 (by decide) ?_
    have hr := z_some h
    subst hr
    exact v_ireturn o dX10_trusted_10
  · replace h := z_in c1 h
    refine v_iload_n o dX10_trusted_4 rfl 1 rfl ?_
    refine v_iconst o (4 : Int32) dX10_trusted_5 (by decide) ?_
    refine v_icmp_lt o 11 dX10_trusted_6 (by decide) (fun c2 => ?_) (fun c2 => ?_)
    · replace h := z_ip c2 h
      refine v_aload_n o dX10_trusted_11 rfl 0 rfl ?_
      obtain ⟨n3, h⟩ := z_gK_of h
      refine gt_10_3 o hK0 ln_3_30 (by rw [n3]; decide) dX10_trusted_12 ?_
      refine v_iload_n o dX10_trusted_15 rfl 1 rfl ?_
      obtain ⟨n4, n5, h⟩ := z_gA_of h
      obtain ⟨n6, h⟩ := z_gK_of h
      refine v_aaldK o n4 n5 (by rw [n6]; decide) dX10_trusted_16 ?_
      refine v_astore o [(4, .ref (z_w q (z_A G (z_R G 1003 a0) (a1).toNatClampNeg))), (0, .ref (z_w q a0)), (1, .int a1), (2, .int a2), (3, .int a3)] dX10_trusted_17 (by decide) rfl ?_
      refine v_iload_n o dX10_trusted_19 rfl 3 rfl ?_
      refine v_iconst o (3 : Int32) dX10_trusted_20 (by decide) ?_
      refine v_icmp_ne o 30 dX10_trusted_21 (by decide) (fun c7 => ?_) (fun c7 => ?_)
      · replace h := z_in c7 h
        refine v_aload o dX10_trusted_30 0 rfl ?_
        obtain ⟨r9, he8, h⟩ := z_bind h
        refine v_callV o yw_X6_holds ln_5_13 wi_X6_holds ws_X6_holds hX (by decide) 6 rfl n6 (As := []) rfl rfl (Nat.le_of_ble_eq_true rfl) (e_X6_holds n6 he8) dX10_trusted_32 ?_
        refine v_if_ne o 49 dX10_trusted_35 (by decide) (fun c10 => ?_) (fun c10 => ?_)
        · replace h := z_in c10 h
          refine v_aload o dX10_trusted_49 0 rfl ?_
          obtain ⟨r12, he11, h⟩ := z_bind h
          refine v_callV o yw_X6_paper ln_5_14 wi_X6_paper ws_X6_paper hX (by decide) 6 rfl n6 (As := []) rfl rfl (Nat.le_of_ble_eq_true rfl) (e_X6_paper n6 he11) dX10_trusted_51 ?_
          refine v_iload_n o dX10_trusted_54 rfl 3 rfl ?_
          refine v_iload_n o dX10_trusted_55 rfl 4 rfl ?_
          obtain ⟨n13, h⟩ := z_gK_of h
          obtain ⟨r15, he14, h⟩ := z_bind h
          refine v_callV o yw_X4_tell ln_5_15 wi_X4_tell ws_X4_tell hX (by decide) 4 rfl n13 (As := [.int a2, .int a3]) rfl rfl (Nat.le_of_ble_eq_true rfl) (e_X4_tell n13 he14) dX10_trusted_56 ?_
          have hr := z_some h
          subst hr
          exact v_ireturn o dX10_trusted_59
        · replace h := z_ip c10 h
          refine v_iload_n o dX10_trusted_38 rfl 3 rfl ?_
          refine v_if_ne o 47 dX10_trusted_39 (by decide) (fun c16 => ?_) (fun c16 => ?_)
          · replace h := z_in c16 h
            refine v_iconst o (-1 : Int32) dX10_trusted_47 (by decide) ?_
            have hr := z_some h
            subst hr
            exact v_ireturn o dX10_trusted_48
          · replace h := z_ip c16 h
            refine v_bipush o (-2 : Int32) dX10_trusted_42 (by decide) ?_
            refine v_goto o 48 dX10_trusted_44 (by decide) ?_
            have hr := z_some h
            subst hr
            exact v_ireturn o dX10_trusted_48
      · replace h := z_ip c7 h
        refine v_aload o dX10_trusted_24 0 rfl ?_
        obtain ⟨r18, he17, h⟩ := z_bind h
        refine v_callV o yw_X6_number ln_5_12 wi_X6_number ws_X6_number hX (by decide) 6 rfl n6 (As := []) rfl rfl (Nat.le_of_ble_eq_true rfl) (e_X6_number n6 he17) dX10_trusted_26 ?_
        have hr := z_some h
        subst hr
        exact v_ireturn o dX10_trusted_29
    · replace h := z_in c2 h
      refine v_iconst o (-1 : Int32) dX10_trusted_9 (by decide) ?_
      have hr := z_some h
      subst hr
      exact v_ireturn o dX10_trusted_10
theorem e_X10_trusted {q : z_Q} {l : Launch} {G : z_G} {D : z_D} {a0 : Nat} {a1 : Int32} {a2 : Int32} {a3 : Int32} {r : Int32} (hK0 : z_K G a0 = 110) (h : f_X10_trusted G D a0 a1 a2 a3 = some r) : z_E q l yX10_trusted cX10_trusted 5 (some .int) 3 0 0 [.ref (z_w q a0), .int a1, .int a2, .int a3] G D (some (.int r)) G D :=
  z_E.of (by decide) (Nat.le_of_ble_eq_true rfl) (fun X hX _ o => b_X10_trusted o hX hK0 h)
def f_X10_flash (G : z_G) (D : z_D) (a0 : Nat) (a1 : Int32) (a2 : Int32) : Option (Int32) :=
  (if a1 < (0 : Int32) then ((some (-1 : Int32))) else ((if (26 : Int32) ≤ a1 then ((some (-1 : Int32))) else ((if a2 < (0 : Int32) then ((some (-1 : Int32))) else ((if a2 < (128 : Int32) then (z_gK G 101 (z_R G 1002 a0) (z_gK G 105 (z_R G 100 (z_R G 1002 a0)) ((f_X5_at G D (z_R G 100 (z_R G 1002 a0)) ((a1 * (128 : Int32)) + a2)).bind (fun r8 => ((some r8)))))) else ((some (-1 : Int32))))))))))
set_option maxRecDepth 100000 in
set_option maxHeartbeats 4000000 in
theorem b_X10_flash {q : z_Q} {X : z_X} {G : z_G} {D : z_D} {a0 : Nat} {a1 : Int32} {a2 : Int32} {r : Int32} (o : z_O q X cX10_flash 3 "FlashTrust" "flash" (some .int)) (hX : x_R X = z_rm 1 0 0) (hK0 : z_K G a0 = 110) (h : f_X10_flash G D a0 a1 a2 = some r) : z_V q X 3 (z_F q X (some (.int r)) G D 0 0) 0 0 G D 0 [(0, .ref (z_w q a0)), (1, .int a1), (2, .int a2)] [] := by
  unfold f_X10_flash at h
  refine v_iload_n o dX10_flash_0 rfl 1 rfl ?_
  refine v_if_lt o 21 dX10_flash_1 (by decide) (fun c1 => ?_) (fun c1 => ?_)
  · replace h := z_ip c1 h
    refine v_iconst o (-1 : Int32) dX10_flash_21 (by decide) ?_
    have hr := z_some h
    subst hr
    exact v_ireturn o dX10_flash_22
  · replace h := z_in c1 h
    refine v_iload_n o dX10_flash_4 rfl 1 rfl ?_
    refine v_bipush o (26 : Int32) dX10_flash_5 (by decide) ?_
    refine v_icmp_ge o 21 dX10_flash_7 (by decide) (fun c2 => ?_) (fun c2 => ?_)
    · replace h := z_ip c2 h
      refine v_iconst o (-1 : Int32) dX10_flash_21 (by decide) ?_
      have hr := z_some h
      subst hr
      exact v_ireturn o dX10_flash_22
    · replace h := z_in c2 h
      refine v_iload_n o dX10_flash_10 rfl 2 rfl ?_
      refine v_if_lt o 21 dX10_flash_11 (by decide) (fun c3 => ?_) (fun c3 => ?_)
      · replace h := z_ip c3 h
        refine v_iconst o (-1 : Int32) dX10_flash_21 (by decide) ?_
        have hr := z_some h
        subst hr
        exact v_ireturn o dX10_flash_22
      · replace h := z_in c3 h
        refine v_iload_n o dX10_flash_14 rfl 2 rfl ?_
        refine v_sipush o (128 : Int32) dX10_flash_15 (by decide) ?_
        refine v_icmp_lt o 23 dX10_flash_18 (by decide) (fun c4 => ?_) (fun c4 => ?_)
        · replace h := z_ip c4 h
          refine v_aload_n o dX10_flash_23 rfl 0 rfl ?_
          obtain ⟨n5, h⟩ := z_gK_of h
          refine gt_10_2 o hK0 ln_3_29 (by rw [n5]; decide) dX10_flash_24 ?_
          obtain ⟨n6, h⟩ := z_gK_of h
          refine gt_1_0 o n5 ln_1_147 (by rw [n6]; decide) dX10_flash_27 ?_
          refine v_iload_n o dX10_flash_30 rfl 1 rfl ?_
          refine v_sipush o (128 : Int32) dX10_flash_31 (by decide) ?_
          refine v_imul o dX10_flash_34 ?_
          refine v_iload_n o dX10_flash_35 rfl 2 rfl ?_
          refine v_iadd o dX10_flash_36 ?_
          obtain ⟨r8, he7, h⟩ := z_bind h
          refine v_callV o yw_X5_at ln_3_74 wi_X5_at ws_X5_at hX (by decide) 5 rfl n6 (As := [.int ((a1 * (128 : Int32)) + a2)]) rfl rfl (Nat.le_of_ble_eq_true rfl) (e_X5_at n6 he7) dX10_flash_37 ?_
          have hr := z_some h
          subst hr
          exact v_ireturn o dX10_flash_40
        · replace h := z_in c4 h
          refine v_iconst o (-1 : Int32) dX10_flash_21 (by decide) ?_
          have hr := z_some h
          subst hr
          exact v_ireturn o dX10_flash_22
theorem e_X10_flash {q : z_Q} {l : Launch} {G : z_G} {D : z_D} {a0 : Nat} {a1 : Int32} {a2 : Int32} {r : Int32} (hK0 : z_K G a0 = 110) (h : f_X10_flash G D a0 a1 a2 = some r) : z_E q l yX10_flash cX10_flash 3 (some .int) 1 0 0 [.ref (z_w q a0), .int a1, .int a2] G D (some (.int r)) G D :=
  z_E.of (by decide) (Nat.le_of_ble_eq_true rfl) (fun X hX _ o => b_X10_flash o hX hK0 h)
def f_X10_digest (G : z_G) (D : z_D) (a0 : Nat) : Option (Int64) :=
  z_gK G 105 (z_R G 1000 a0) ((f_X5_size G D (z_R G 1000 a0)).bind (fun r3 => ((f_X5_hash G D (z_R G 1000 a0) (0 : Int32) r3).bind (fun r5 => ((some r5))))))
set_option maxRecDepth 100000 in
set_option maxHeartbeats 4000000 in
theorem b_X10_digest {q : z_Q} {X : z_X} {G : z_G} {D : z_D} {a0 : Nat} {r : Int64} (o : z_O q X cX10_digest 1 "FlashTrust" "digest" (some .long)) (hX : x_R X = z_rm 1 0 0) (hK0 : z_K G a0 = 110) (h : f_X10_digest G D a0 = some r) : z_V q X 1 (z_F q X (some (.long r)) G D 0 0) 0 0 G D 0 [(0, .ref (z_w q a0))] [] := by
  unfold f_X10_digest at h
  refine v_aload_n o dX10_digest_0 rfl 0 rfl ?_
  obtain ⟨n1, h⟩ := z_gK_of h
  refine gt_10_0 o hK0 ln_3_27 (by rw [n1]; decide) dX10_digest_1 ?_
  refine v_iconst o (0 : Int32) dX10_digest_4 (by decide) ?_
  refine v_aload_n o dX10_digest_5 rfl 0 rfl ?_
  refine gt_10_0 o hK0 ln_3_27 (by rw [n1]; decide) dX10_digest_6 ?_
  obtain ⟨r3, he2, h⟩ := z_bind h
  refine v_callV o yw_X5_size ln_3_53 wi_X5_size ws_X5_size hX (by decide) 5 rfl n1 (As := []) rfl rfl (Nat.le_of_ble_eq_true rfl) (e_X5_size n1 he2) dX10_digest_9 ?_
  obtain ⟨r5, he4, h⟩ := z_bind h
  refine v_callV o yw_X5_hash ln_5_35 wi_X5_hash ws_X5_hash hX (by decide) 5 rfl n1 (As := [.int (0 : Int32), .int r3]) rfl rfl (Nat.le_of_ble_eq_true rfl) (e_X5_hash n1 he4) dX10_digest_12 ?_
  have hr := z_some h
  subst hr
  exact v_lreturn o dX10_digest_15
theorem e_X10_digest {q : z_Q} {l : Launch} {G : z_G} {D : z_D} {a0 : Nat} {r : Int64} (hK0 : z_K G a0 = 110) (h : f_X10_digest G D a0 = some r) : z_E q l yX10_digest cX10_digest 1 (some .long) 1 0 0 [.ref (z_w q a0)] G D (some (.long r)) G D :=
  z_E.of (by decide) (Nat.le_of_ble_eq_true rfl) (fun X hX _ o => b_X10_digest o hX hK0 h)
