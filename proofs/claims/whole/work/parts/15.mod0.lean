def f_X11_slotAt (G : z_G) (D : z_D) (a0 : Int32) : Option (Int32) :=
  (if a0 = (0 : Int32) then (((some ((128 : Int32) * (10 : Int32))))) else ((some ((128 : Int32) * (18 : Int32)))))
set_option maxRecDepth 100000 in
set_option maxHeartbeats 4000000 in
theorem b_X11_slotAt {q : z_Q} {X : z_X} {G : z_G} {D : z_D} {a0 : Int32} {r : Int32} (o : z_O q X cX11_slotAt 1 "FlashTrustModel" "slotAt" (some .int)) (hX : x_R X = z_rm 0 0 0)  (h : f_X11_slotAt G D a0 = some r) : z_V q X 1 (z_F q X (some (.int r)) G D 0 0) 0 0 G D 0 [(0, .int a0)] [] := by
  unfold f_X11_slotAt at h
  refine v_sipush o (128 : Int32) dX11_slotAt_0 (by decide) ?_
  refine v_iload_n o dX11_slotAt_3 rfl 0 rfl ?_
  refine v_if_ne o 12 dX11_slotAt_4 (by decide) (fun c1 => ?_) (fun c1 => ?_)
  · replace h := z_in c1 h
    refine v_bipush o (18 : Int32) dX11_slotAt_12 (by decide) ?_
    refine v_imul o dX11_slotAt_14 ?_
    have hr := z_some h
    subst hr
    exact v_ireturn o dX11_slotAt_15
  · replace h := z_ip c1 h
    refine v_bipush o (10 : Int32) dX11_slotAt_7 (by decide) ?_
    refine v_goto o 14 dX11_slotAt_9 (by decide) ?_
    refine v_imul o dX11_slotAt_14 ?_
    have hr := z_some h
    subst hr
    exact v_ireturn o dX11_slotAt_15
theorem e_X11_slotAt {q : z_Q} {l : Launch} {G : z_G} {D : z_D} {a0 : Int32} {r : Int32} (h : f_X11_slotAt G D a0 = some r) : z_E q l yX11_slotAt cX11_slotAt 1 (some .int) 0 0 0 [.int a0] G D (some (.int r)) G D :=
  z_E.of (by decide) (Nat.le_of_ble_eq_true rfl) (fun X hX _ o => b_X11_slotAt o hX h)
def f_X11_digestBegin (G : z_G) (D : z_D) (a0 : Nat) : Option (z_D) :=
  (some (z_sJ D 1110 a0 (1469598103934665603 : Int64)))
set_option maxRecDepth 100000 in
set_option maxHeartbeats 4000000 in
theorem b_X11_digestBegin {q : z_Q} {X : z_X} {G : z_G} {D : z_D} {a0 : Nat}  {D1 : z_D} (o : z_O q X cX11_digestBegin 1 "FlashTrustModel" "digestBegin" none) (hX : x_R X = z_rm 0 0 0) (hK0 : z_K G a0 = 111) (h : f_X11_digestBegin G D a0 = some D1) : z_V q X 1 (z_F q X none G D1 0 0) 0 0 G D 0 [(0, .ref (z_w q a0))] [] := by
  unfold f_X11_digestBegin at h
  refine v_aload_n o dX11_digestBegin_0 rfl 0 rfl ?_
  refine v_ldc2 o ln_5_56 dX11_digestBegin_1 ?_
  refine pt_11_10 o hK0 ln_5_105 dX11_digestBegin_4 ?_
  have hr := z_some h
  subst hr
  exact v_return o dX11_digestBegin_7
theorem e_X11_digestBegin {q : z_Q} {l : Launch} {G : z_G} {D : z_D} {a0 : Nat}  {D1 : z_D} (hK0 : z_K G a0 = 111) (h : f_X11_digestBegin G D a0 = some D1) : z_E q l yX11_digestBegin cX11_digestBegin 1 none 0 0 0 [.ref (z_w q a0)] G D none G D1 :=
  z_E.of (by decide) (Nat.le_of_ble_eq_true rfl) (fun X hX _ o => b_X11_digestBegin o hX hK0 h)
def f_X11_digestByte (G : z_G) (D : z_D) (a0 : Nat) (a1 : Int32) : Option (z_D) :=
  (some (z_sJ (z_sJ D 1110 a0 (((z_J D 1110 a0) ^^^ (a1).toInt64) * (1099511628211 : Int64))) 1110 a0 ((z_J (z_sJ D 1110 a0 (((z_J D 1110 a0) ^^^ (a1).toInt64) * (1099511628211 : Int64))) 1110 a0) ^^^ (((z_J (z_sJ D 1110 a0 (((z_J D 1110 a0) ^^^ (a1).toInt64) * (1099511628211 : Int64))) 1110 a0)).toUInt64 >>> (((29 : Int32)).toInt64.toUInt64 &&& Int64.toUInt64 63)).toInt64)))
set_option maxRecDepth 100000 in
set_option maxHeartbeats 4000000 in
theorem b_X11_digestByte {q : z_Q} {X : z_X} {G : z_G} {D : z_D} {a0 : Nat} {a1 : Int32}  {D1 : z_D} (o : z_O q X cX11_digestByte 2 "FlashTrustModel" "digestByte" none) (hX : x_R X = z_rm 0 0 0) (hK0 : z_K G a0 = 111) (h : f_X11_digestByte G D a0 a1 = some D1) : z_V q X 2 (z_F q X none G D1 0 0) 0 0 G D 0 [(0, .ref (z_w q a0)), (1, .int a1)] [] := by
  unfold f_X11_digestByte at h
  refine v_aload_n o dX11_digestByte_0 rfl 0 rfl ?_
  refine v_aload_n o dX11_digestByte_1 rfl 0 rfl ?_
  refine gt_11_10 o hK0 ln_5_105 dX11_digestByte_2 ?_
  refine v_iload_n o dX11_digestByte_5 rfl 1 rfl ?_
  refine v_i2l o dX11_digestByte_6 ?_
  refine v_lxor o dX11_digestByte_7 ?_
  refine v_ldc2 o ln_5_61 dX11_digestByte_8 ?_
  refine v_lmul o dX11_digestByte_11 ?_
  refine pt_11_10 o hK0 ln_5_105 dX11_digestByte_12 ?_
  refine v_aload_n o dX11_digestByte_15 rfl 0 rfl ?_
  refine v_aload_n o dX11_digestByte_16 rfl 0 rfl ?_
  refine gt_11_10 o hK0 ln_5_105 dX11_digestByte_17 ?_
  refine v_aload_n o dX11_digestByte_20 rfl 0 rfl ?_
  refine gt_11_10 o hK0 ln_5_105 dX11_digestByte_21 ?_
  refine v_bipush o (29 : Int32) dX11_digestByte_24 (by decide) ?_
  refine v_lushr o dX11_digestByte_26 ?_
  refine v_lxor o dX11_digestByte_27 ?_
  refine pt_11_10 o hK0 ln_5_105 dX11_digestByte_28 ?_
  have hr := z_some h
  subst hr
  exact v_return o dX11_digestByte_31
theorem e_X11_digestByte {q : z_Q} {l : Launch} {G : z_G} {D : z_D} {a0 : Nat} {a1 : Int32}  {D1 : z_D} (hK0 : z_K G a0 = 111) (h : f_X11_digestByte G D a0 a1 = some D1) : z_E q l yX11_digestByte cX11_digestByte 2 none 0 0 0 [.ref (z_w q a0), .int a1] G D none G D1 :=
  z_E.of (by decide) (Nat.le_of_ble_eq_true rfl) (fun X hX _ o => b_X11_digestByte o hX hK0 h)
def p_X11_slotDigest_6 (q : z_Q) (X : z_X) (Q : State → Prop) (G : z_G) (a0 : Nat) (a1 : Int32) (a2 : Int32) : (z_D × Int32) → Prop := (fun v => z_V q X 4 Q 0 0 G v.1 6 [(0, .ref (z_w q a0)), (1, .int a1), (2, .int a2), (3, .int v.2)] [])
def x_X11_slotDigest_6 (q : z_Q) (X : z_X) (Q : State → Prop) (G : z_G) (a0 : Nat) (a1 : Int32) (a2 : Int32) : z_D → Prop := (fun v => z_V q X 4 Q 0 0 G v 32 [(0, .ref (z_w q a0))] [])
def k_X11_slotDigest_6 (q : z_Q) (X : z_X) (Q : State → Prop) (G : z_G) (a0 : Nat) (a1 : Int32) (a2 : Int32) : (z_D × Int32) ⊕ z_D → Prop := Sum.elim (p_X11_slotDigest_6 q X Q G a0 a1 a2) (x_X11_slotDigest_6 q X Q G a0 a1 a2)
def c_X11_slotDigest_6 (G : z_G) (D : z_D) (a0 : Nat) (a1 : Int32) (a2 : Int32) (a3 : Int32) : Option ((z_D × Int32) ⊕ z_D) :=
  (if a2 ≤ a3 then (some (.inr D)) else (z_gK G 1 (z_R G 1100 a0) ((f_X11_slotAt G D a1).bind (fun r6 => (z_gA G 1 (z_R G 1100 a0) (r6 + a3) ((f_X11_digestByte G D a0 (z_U D (z_R G 1100 a0) ((r6 + a3)).toNatClampNeg)).bind (fun D10 => ((some (.inl (D10, (a3 + (1 : Int32)))))))))))))
set_option maxRecDepth 100000 in
set_option maxHeartbeats 4000000 in
theorem tc_X11_slotDigest_6 {q : z_Q} {X : z_X} {G : z_G} {D : z_D} {Q : State → Prop} {a0 : Nat} {a1 : Int32} {a2 : Int32} {a3 : Int32} (o : z_O q X cX11_slotDigest 4 "FlashTrustModel" "slotDigest" (some .long)) (hX : x_R X = z_rm 1 0 0) (hK0 : z_K G a0 = 111) {ρ : (z_D × Int32) ⊕ z_D} (h : c_X11_slotDigest_6 G D a0 a1 a2 a3 = some ρ) (hk : k_X11_slotDigest_6 q X Q G a0 a1 a2 ρ) : z_V q X 4 Q 0 0 G D 6 [(0, .ref (z_w q a0)), (1, .int a1), (2, .int a2), (3, .int a3)] [] := by
  unfold c_X11_slotDigest_6 at h
  refine v_iload_n o dX11_slotDigest_6 rfl 3 rfl ?_
  refine v_iload_n o dX11_slotDigest_7 rfl 2 rfl ?_
  refine v_icmp_ge o 32 dX11_slotDigest_8 (by decide) (fun c3 => ?_) (fun c3 => ?_)
  · replace h := z_ip c3 h
    obtain rfl := z_some h
    refine v_sub [0] rfl ?_
    exact hk
  · replace h := z_in c3 h
    refine v_aload_n o dX11_slotDigest_11 rfl 0 rfl ?_
    refine v_aload_n o dX11_slotDigest_12 rfl 0 rfl ?_
    obtain ⟨n4, h⟩ := z_gK_of h
    refine gt_11_0 o hK0 ln_5_95 (by rw [n4]; decide) dX11_slotDigest_13 ?_
    refine v_iload_n o dX11_slotDigest_16 rfl 1 rfl ?_
    obtain ⟨r6, he5, h⟩ := z_bind h
    refine v_callS o yw_X11_slotAt ln_5_45 ws_X11_slotAt hX (by decide) (As := [.int a1]) rfl rfl (Nat.le_of_ble_eq_true rfl) (e_X11_slotAt he5) dX11_slotDigest_17 ?_
    refine v_iload_n o dX11_slotDigest_20 rfl 3 rfl ?_
    refine v_iadd o dX11_slotDigest_21 ?_
    obtain ⟨n7, n8, h⟩ := z_gA_of h
    refine v_iald o n7 n8 dX11_slotDigest_22 ?_
    obtain ⟨D10, he9, h⟩ := z_bind h
    refine v_callV o yw_X11_digestByte ln_5_57 wi_X11_digestByte ws_X11_digestByte hX (by decide) 11 rfl hK0 (As := [.int (z_U D (z_R G 1100 a0) ((r6 + a3)).toNatClampNeg)]) rfl rfl (Nat.le_of_ble_eq_true rfl) (e_X11_digestByte hK0 he9) dX11_slotDigest_23 ?_
    refine v_iinc o (a3 + (1 : Int32)) [(3, .int (a3 + (1 : Int32))), (0, .ref (z_w q a0)), (1, .int a1), (2, .int a2)] dX11_slotDigest_26 3 rfl rfl (by decide) rfl ?_
    refine v_goto o 6 dX11_slotDigest_29 (by decide) ?_
    obtain rfl := z_some h
    refine v_sub [1, 2, 3, 0] rfl ?_
    exact hk
def f_X11_slotDigest (G : z_G) (D : z_D) (a0 : Nat) (a1 : Int32) (a2 : Int32) : Option (Int64 × z_D) :=
  (f_X11_digestBegin G D a0).bind (fun D2 => (((z_loop (fun v => c_X11_slotDigest_6 G v.1 a0 a1 a2 v.2) 4000 (D2, (0 : Int32))).bind (fun e11 => (some (((z_J e11 1110 a0) &&& (281474976710655 : Int64)), e11))))))
set_option maxRecDepth 100000 in
set_option maxHeartbeats 4000000 in
theorem b_X11_slotDigest {q : z_Q} {X : z_X} {G : z_G} {D : z_D} {a0 : Nat} {a1 : Int32} {a2 : Int32} {r : Int64} {D1 : z_D} (o : z_O q X cX11_slotDigest 4 "FlashTrustModel" "slotDigest" (some .long)) (hX : x_R X = z_rm 1 0 0) (hK0 : z_K G a0 = 111) (h : f_X11_slotDigest G D a0 a1 a2 = some (r, D1)) : z_V q X 4 (z_F q X (some (.long r)) G D1 0 0) 0 0 G D 0 [(0, .ref (z_w q a0)), (1, .int a1), (2, .int a2)] [] := by
  unfold f_X11_slotDigest at h
  refine v_aload_n o dX11_slotDigest_0 rfl 0 rfl ?_
  obtain ⟨D2, he1, h⟩ := z_bind h
  refine v_callV o yw_X11_digestBegin ln_5_52 wi_X11_digestBegin ws_X11_digestBegin hX (by decide) 11 rfl hK0 (As := []) rfl rfl (Nat.le_of_ble_eq_true rfl) (e_X11_digestBegin hK0 he1) dX11_slotDigest_1 ?_
  refine v_iconst o (0 : Int32) dX11_slotDigest_4 (by decide) ?_
  refine v_istore_n o [(3, .int (0 : Int32)), (0, .ref (z_w q a0)), (1, .int a1), (2, .int a2)] dX11_slotDigest_5 rfl (by decide) rfl ?_
  refine v_sub [1, 2, 3, 0] rfl ?_
  obtain ⟨e11, he12, h⟩ := z_bind h
  refine z_loopV (P := p_X11_slotDigest_6 q X _ G a0 a1 a2) (E := x_X11_slotDigest_6 q X _ G a0 a1 a2) (fun v ρ hb hk => tc_X11_slotDigest_6 (D := v.1) (a0 := a0) (a1 := a1) (a2 := a2) (a3 := v.2) o hX hK0 hb hk) 4000 _ e11 he12 ?_
  show z_V q X 4 _ _ _ G e11 32 [(0, .ref (z_w q a0))] []
  refine v_aload_n o dX11_slotDigest_32 rfl 0 rfl ?_
  refine gt_11_10 o hK0 ln_5_105 dX11_slotDigest_33 ?_
  refine v_ldc2 o ln_5_62 dX11_slotDigest_36 ?_
  refine v_land o dX11_slotDigest_39 ?_
  obtain ⟨hr, hs⟩ := Prod.mk.inj (z_some h)
  subst hr
  subst hs
  exact v_lreturn o dX11_slotDigest_40
theorem e_X11_slotDigest {q : z_Q} {l : Launch} {G : z_G} {D : z_D} {a0 : Nat} {a1 : Int32} {a2 : Int32} {r : Int64} {D1 : z_D} (hK0 : z_K G a0 = 111) (h : f_X11_slotDigest G D a0 a1 a2 = some (r, D1)) : z_E q l yX11_slotDigest cX11_slotDigest 4 (some .long) 1 0 0 [.ref (z_w q a0), .int a1, .int a2] G D (some (.long r)) G D1 :=
  z_E.of (by decide) (Nat.le_of_ble_eq_true rfl) (fun X hX _ o => b_X11_slotDigest o hX hK0 h)
def p_X11_feed_19 (q : z_Q) (X : z_X) (Q : State → Prop) (G : z_G) (a0 : Nat) (a1 : Int32) (a2 : Int32) (a3 : Int32) (a4 : Int32) (a5 : Int32) : (z_D × Int32) → Prop := (fun v => z_V q X 8 Q 0 0 G v.1 19 [(0, .ref (z_w q a0)), (1, .int a1), (2, .int a2), (3, .int a3), (4, .int a4), (5, .int a5), (6, .int v.2)] [])
def x_X11_feed_19 (q : z_Q) (X : z_X) (Q : State → Prop) (G : z_G) (a0 : Nat) (a1 : Int32) (a2 : Int32) (a3 : Int32) (a4 : Int32) (a5 : Int32) : z_D → Prop := (fun v => z_V q X 8 Q 0 0 G v 116 [(0, .ref (z_w q a0))] [])
def k_X11_feed_19 (q : z_Q) (X : z_X) (Q : State → Prop) (G : z_G) (a0 : Nat) (a1 : Int32) (a2 : Int32) (a3 : Int32) (a4 : Int32) (a5 : Int32) : (z_D × Int32) ⊕ z_D → Prop := Sum.elim (p_X11_feed_19 q X Q G a0 a1 a2 a3 a4 a5) (x_X11_feed_19 q X Q G a0 a1 a2 a3 a4 a5)
def j_X11_feed_L19_72 (G : z_G) (D : z_D) (a0 : Nat) (a1 : Int32) (a2 : Int32) (a3 : Int32) (a4 : Int32) (a5 : Int32) (a6 : Int32) (s0 : Int32) : Option ((z_D × Int32) ⊕ z_D) :=
  z_gK G 1 (z_R G 1111 a0) (z_gA G 1 (z_R G 1111 a0) (z_I D 1112 a0) ((some (.inl ((z_sI (z_sU D (z_R G 1111 a0) ((z_I D 1112 a0)).toNatClampNeg ((s0 >>> (((24 : Int32) - ((8 : Int32) * (a6 - a6 / (4 : Int32) * (4 : Int32)))) &&& 31)) &&& (255 : Int32))) 1112 a0 ((z_I (z_sU D (z_R G 1111 a0) ((z_I D 1112 a0)).toNatClampNeg ((s0 >>> (((24 : Int32) - ((8 : Int32) * (a6 - a6 / (4 : Int32) * (4 : Int32)))) &&& 31)) &&& (255 : Int32))) 1112 a0) + (1 : Int32))), (a6 + (1 : Int32)))))))
set_option maxRecDepth 100000 in
set_option maxHeartbeats 4000000 in
theorem tj_X11_feed_L19_72 {q : z_Q} {X : z_X} {G : z_G} {D : z_D} {Q : State → Prop}  {a0 : Nat} {a1 : Int32} {a2 : Int32} {a3 : Int32} {a4 : Int32} {a5 : Int32} {a6 : Int32} {s0 : Int32} (o : z_O q X cX11_feed 8 "FlashTrustModel" "feed" (some .int)) (hX : x_R X = z_rm 0 0 0) (hK0 : z_K G a0 = 111) {ρ : (z_D × Int32) ⊕ z_D} (h : j_X11_feed_L19_72 G D a0 a1 a2 a3 a4 a5 a6 s0 = some ρ) (hk : k_X11_feed_19 q X Q G a0 a1 a2 a3 a4 a5 ρ) : z_V q X 8 Q 0 0 G D 72 [(0, .ref (z_w q a0)), (1, .int a1), (2, .int a2), (3, .int a3), (4, .int a4), (5, .int a5), (6, .int a6)] [.int s0] := by
  unfold j_X11_feed_L19_72 at h
  refine v_istore o [(7, .int s0), (0, .ref (z_w q a0)), (1, .int a1), (2, .int a2), (3, .int a3), (4, .int a4), (5, .int a5), (6, .int a6)] dX11_feed_72 (by decide) rfl ?_
  refine v_aload_n o dX11_feed_74 rfl 1 rfl ?_
  obtain ⟨n7, h⟩ := z_gK_of h
  refine gt_11_11 o hK0 ln_5_106 (by rw [n7]; decide) dX11_feed_75 ?_
  refine v_aload_n o dX11_feed_78 rfl 1 rfl ?_
  refine gt_11_12 o hK0 ln_5_107 dX11_feed_79 ?_
  refine v_iload o dX11_feed_82 0 rfl ?_
  refine v_bipush o (24 : Int32) dX11_feed_84 (by decide) ?_
  refine v_bipush o (8 : Int32) dX11_feed_86 (by decide) ?_
  refine v_iload o dX11_feed_88 7 rfl ?_
  refine v_iconst o (4 : Int32) dX11_feed_90 (by decide) ?_
  refine v_irem o dX11_feed_91 (by decide) ?_
  refine v_imul o dX11_feed_92 ?_
  refine v_isub o dX11_feed_93 ?_
  refine v_ishr o dX11_feed_94 ?_
  refine v_sipush o (255 : Int32) dX11_feed_95 (by decide) ?_
  refine v_iand o dX11_feed_98 ?_
  obtain ⟨n8, n9, h⟩ := z_gA_of h
  refine v_iast o n8 n9 dX11_feed_99 ?_
  refine v_aload_n o dX11_feed_100 rfl 1 rfl ?_
  refine v_dup o dX11_feed_101 rfl ?_
  refine gt_11_12 o hK0 ln_5_107 dX11_feed_102 ?_
  refine v_iconst o (1 : Int32) dX11_feed_105 (by decide) ?_
  refine v_iadd o dX11_feed_106 ?_
  refine pt_11_12 o hK0 ln_5_107 dX11_feed_107 ?_
  refine v_iinc o (a6 + (1 : Int32)) [(6, .int (a6 + (1 : Int32))), (7, .int s0), (0, .ref (z_w q a0)), (1, .int a1), (2, .int a2), (3, .int a3), (4, .int a4), (5, .int a5)] dX11_feed_110 7 rfl rfl (by decide) rfl ?_
  refine v_goto o 19 dX11_feed_113 (by decide) ?_
  obtain rfl := z_some h
  refine v_sub [2, 3, 4, 5, 6, 7, 0] rfl ?_
  exact hk
def c_X11_feed_19 (G : z_G) (D : z_D) (a0 : Nat) (a1 : Int32) (a2 : Int32) (a3 : Int32) (a4 : Int32) (a5 : Int32) (a6 : Int32) : Option ((z_D × Int32) ⊕ z_D) :=
  (if (20 : Int32) ≤ a6 then (some (.inr D)) else ((if (4 : Int32) ≤ a6 then ((if (8 : Int32) ≤ a6 then ((if (12 : Int32) ≤ a6 then ((if (16 : Int32) ≤ a6 then ((j_X11_feed_L19_72 G D  a0 a1 a2 a3 a4 a5 a6 a5)) else ((j_X11_feed_L19_72 G D  a0 a1 a2 a3 a4 a5 a6 a4)))) else ((j_X11_feed_L19_72 G D  a0 a1 a2 a3 a4 a5 a6 a3)))) else ((j_X11_feed_L19_72 G D  a0 a1 a2 a3 a4 a5 a6 a2)))) else ((j_X11_feed_L19_72 G D  a0 a1 a2 a3 a4 a5 a6 a1)))))
set_option maxRecDepth 100000 in
set_option maxHeartbeats 4000000 in
theorem tc_X11_feed_19 {q : z_Q} {X : z_X} {G : z_G} {D : z_D} {Q : State → Prop} {a0 : Nat} {a1 : Int32} {a2 : Int32} {a3 : Int32} {a4 : Int32} {a5 : Int32} {a6 : Int32} (o : z_O q X cX11_feed 8 "FlashTrustModel" "feed" (some .int)) (hX : x_R X = z_rm 0 0 0) (hK0 : z_K G a0 = 111) {ρ : (z_D × Int32) ⊕ z_D} (h : c_X11_feed_19 G D a0 a1 a2 a3 a4 a5 a6 = some ρ) (hk : k_X11_feed_19 q X Q G a0 a1 a2 a3 a4 a5 ρ) : z_V q X 8 Q 0 0 G D 19 [(0, .ref (z_w q a0)), (1, .int a1), (2, .int a2), (3, .int a3), (4, .int a4), (5, .int a5), (6, .int a6)] [] := by
  unfold c_X11_feed_19 at h
  refine v_iload o dX11_feed_19 6 rfl ?_
  refine v_bipush o (20 : Int32) dX11_feed_21 (by decide) ?_
  refine v_icmp_ge o 116 dX11_feed_23 (by decide) (fun c2 => ?_) (fun c2 => ?_)
  · replace h := z_ip c2 h
    obtain rfl := z_some h
    refine v_sub [0] rfl ?_
    exact hk
  · replace h := z_in c2 h
    refine v_iload o dX11_feed_26 6 rfl ?_
    refine v_iconst o (4 : Int32) dX11_feed_28 (by decide) ?_
    refine v_icmp_ge o 36 dX11_feed_29 (by decide) (fun c3 => ?_) (fun c3 => ?_)
    · replace h := z_ip c3 h
      refine v_iload o dX11_feed_36 6 rfl ?_
      refine v_bipush o (8 : Int32) dX11_feed_38 (by decide) ?_
      refine v_icmp_ge o 47 dX11_feed_40 (by decide) (fun c4 => ?_) (fun c4 => ?_)
      · replace h := z_ip c4 h
        refine v_iload o dX11_feed_47 6 rfl ?_
        refine v_bipush o (12 : Int32) dX11_feed_49 (by decide) ?_
        refine v_icmp_ge o 58 dX11_feed_51 (by decide) (fun c5 => ?_) (fun c5 => ?_)
        · replace h := z_ip c5 h
          refine v_iload o dX11_feed_58 6 rfl ?_
          refine v_bipush o (16 : Int32) dX11_feed_60 (by decide) ?_
          refine v_icmp_ge o 70 dX11_feed_62 (by decide) (fun c6 => ?_) (fun c6 => ?_)
          · replace h := z_ip c6 h
            refine v_iload o dX11_feed_70 5 rfl ?_
            exact tj_X11_feed_L19_72 o hX hK0 h hk
          · replace h := z_in c6 h
            refine v_iload o dX11_feed_65 4 rfl ?_
            refine v_goto o 72 dX11_feed_67 (by decide) ?_
            exact tj_X11_feed_L19_72 o hX hK0 h hk
        · replace h := z_in c5 h
          refine v_iload_n o dX11_feed_54 rfl 3 rfl ?_
          refine v_goto o 72 dX11_feed_55 (by decide) ?_
          exact tj_X11_feed_L19_72 o hX hK0 h hk
      · replace h := z_in c4 h
        refine v_iload_n o dX11_feed_43 rfl 2 rfl ?_
        refine v_goto o 72 dX11_feed_44 (by decide) ?_
        exact tj_X11_feed_L19_72 o hX hK0 h hk
    · replace h := z_in c3 h
      refine v_iload_n o dX11_feed_32 rfl 1 rfl ?_
      refine v_goto o 72 dX11_feed_33 (by decide) ?_
      exact tj_X11_feed_L19_72 o hX hK0 h hk
def f_X11_feed (G : z_G) (D : z_D) (a0 : Nat) (a1 : Int32) (a2 : Int32) (a3 : Int32) (a4 : Int32) (a5 : Int32) : Option (Int32 × z_D) :=
  (if ((z_I D 1112 a0) + (20 : Int32)) ≤ (300 : Int32) then (((z_loop (fun v => c_X11_feed_19 G v.1 a0 a1 a2 a3 a4 a5 v.2) 4000 (D, (0 : Int32))).bind (fun e10 => (some ((z_I e10 1112 a0), e10))))) else ((some ((-5 : Int32), D))))
set_option maxRecDepth 100000 in
set_option maxHeartbeats 4000000 in
theorem b_X11_feed {q : z_Q} {X : z_X} {G : z_G} {D : z_D} {a0 : Nat} {a1 : Int32} {a2 : Int32} {a3 : Int32} {a4 : Int32} {a5 : Int32} {r : Int32} {D1 : z_D} (o : z_O q X cX11_feed 8 "FlashTrustModel" "feed" (some .int)) (hX : x_R X = z_rm 0 0 0) (hK0 : z_K G a0 = 111) (h : f_X11_feed G D a0 a1 a2 a3 a4 a5 = some (r, D1)) : z_V q X 8 (z_F q X (some (.int r)) G D1 0 0) 0 0 G D 0 [(0, .ref (z_w q a0)), (1, .int a1), (2, .int a2), (3, .int a3), (4, .int a4), (5, .int a5)] [] := by
  unfold f_X11_feed at h
  refine v_aload_n o dX11_feed_0 rfl 0 rfl ?_
  refine gt_11_12 o hK0 ln_5_107 dX11_feed_1 ?_
  refine v_bipush o (20 : Int32) dX11_feed_4 (by decide) ?_
  refine v_iadd o dX11_feed_6 ?_
  refine v_sipush o (300 : Int32) dX11_feed_7 (by decide) ?_
  refine v_icmp_le o 16 dX11_feed_10 (by decide) (fun c1 => ?_) (fun c1 => ?_)
  · replace h := z_ip c1 h
    refine v_iconst o (0 : Int32) dX11_feed_16 (by decide) ?_
    refine v_istore o [(6, .int (0 : Int32)), (0, .ref (z_w q a0)), (1, .int a1), (2, .int a2), (3, .int a3), (4, .int a4), (5, .int a5)] dX11_feed_17 (by decide) rfl ?_
    refine v_sub [1, 2, 3, 4, 5, 6, 0] rfl ?_
    obtain ⟨e10, he11, h⟩ := z_bind h
    refine z_loopV (P := p_X11_feed_19 q X _ G a0 a1 a2 a3 a4 a5) (E := x_X11_feed_19 q X _ G a0 a1 a2 a3 a4 a5) (fun v ρ hb hk => tc_X11_feed_19 (D := v.1) (a0 := a0) (a1 := a1) (a2 := a2) (a3 := a3) (a4 := a4) (a5 := a5) (a6 := v.2) o hX hK0 hb hk) 4000 _ e10 he11 ?_
    show z_V q X 8 _ _ _ G e10 116 [(0, .ref (z_w q a0))] []
    refine v_aload_n o dX11_feed_116 rfl 0 rfl ?_
    refine gt_11_12 o hK0 ln_5_107 dX11_feed_117 ?_
    obtain ⟨hr, hs⟩ := Prod.mk.inj (z_some h)
    subst hr
    subst hs
    exact v_ireturn o dX11_feed_120
  · replace h := z_in c1 h
    refine v_bipush o (-5 : Int32) dX11_feed_13 (by decide) ?_
    obtain ⟨hr, hs⟩ := Prod.mk.inj (z_some h)
    subst hr
    subst hs
    exact v_ireturn o dX11_feed_15
theorem e_X11_feed {q : z_Q} {l : Launch} {G : z_G} {D : z_D} {a0 : Nat} {a1 : Int32} {a2 : Int32} {a3 : Int32} {a4 : Int32} {a5 : Int32} {r : Int32} {D1 : z_D} (hK0 : z_K G a0 = 111) (h : f_X11_feed G D a0 a1 a2 a3 a4 a5 = some (r, D1)) : z_E q l yX11_feed cX11_feed 8 (some .int) 0 0 0 [.ref (z_w q a0), .int a1, .int a2, .int a3, .int a4, .int a5] G D (some (.int r)) G D1 :=
  z_E.of (by decide) (Nat.le_of_ble_eq_true rfl) (fun X hX _ o => b_X11_feed o hX hK0 h)
def f_X11_end (G : z_G) (D : z_D) (a0 : Nat) (a1 : Int32) : Option (Int32 × z_D) :=
  (if a1 < (0 : Int32) then ((some ((-1 : Int32), D))) else ((if (20 : Int32) < a1 then ((some ((-1 : Int32), D))) else ((if (20 : Int32) ≤ (z_I D 1112 a0) then ((some ((z_I (z_sI D 1112 a0 (((z_I D 1112 a0) - (20 : Int32)) + a1)) 1112 a0), (z_sI D 1112 a0 (((z_I D 1112 a0) - (20 : Int32)) + a1))))) else ((some ((-1 : Int32), D))))))))
set_option maxRecDepth 100000 in
set_option maxHeartbeats 4000000 in
theorem b_X11_end {q : z_Q} {X : z_X} {G : z_G} {D : z_D} {a0 : Nat} {a1 : Int32} {r : Int32} {D1 : z_D} (o : z_O q X cX11_end 2 "FlashTrustModel" "end" (some .int)) (hX : x_R X = z_rm 0 0 0) (hK0 : z_K G a0 = 111) (h : f_X11_end G D a0 a1 = some (r, D1)) : z_V q X 2 (z_F q X (some (.int r)) G D1 0 0) 0 0 G D 0 [(0, .ref (z_w q a0)), (1, .int a1)] [] := by
  unfold f_X11_end at h
  refine v_iload_n o dX11_end_0 rfl 1 rfl ?_
  refine v_if_lt o 19 dX11_end_1 (by decide) (fun c1 => ?_) (fun c1 => ?_)
  · replace h := z_ip c1 h
    refine v_iconst o (-1 : Int32) dX11_end_19 (by decide) ?_
    obtain ⟨hr, hs⟩ := Prod.mk.inj (z_some h)
    subst hr
    subst hs
    exact v_ireturn o dX11_end_20
  · replace h := z_in c1 h
    refine v_iload_n o dX11_end_4 rfl 1 rfl ?_
    refine v_bipush o (20 : Int32) dX11_end_5 (by decide) ?_
    refine v_icmp_gt o 19 dX11_end_7 (by decide) (fun c2 => ?_) (fun c2 => ?_)
    · replace h := z_ip c2 h
      refine v_iconst o (-1 : Int32) dX11_end_19 (by decide) ?_
      obtain ⟨hr, hs⟩ := Prod.mk.inj (z_some h)
      subst hr
      subst hs
      exact v_ireturn o dX11_end_20
    · replace h := z_in c2 h
      refine v_aload_n o dX11_end_10 rfl 0 rfl ?_
      refine gt_11_12 o hK0 ln_5_107 dX11_end_11 ?_
      refine v_bipush o (20 : Int32) dX11_end_14 (by decide) ?_
      refine v_icmp_ge o 21 dX11_end_16 (by decide) (fun c3 => ?_) (fun c3 => ?_)
      · replace h := z_ip c3 h
        refine v_aload_n o dX11_end_21 rfl 0 rfl ?_
        refine v_aload_n o dX11_end_22 rfl 0 rfl ?_
        refine gt_11_12 o hK0 ln_5_107 dX11_end_23 ?_
        refine v_bipush o (20 : Int32) dX11_end_26 (by decide) ?_
        refine v_isub o dX11_end_28 ?_
        refine v_iload_n o dX11_end_29 rfl 1 rfl ?_
        refine v_iadd o dX11_end_30 ?_
        refine pt_11_12 o hK0 ln_5_107 dX11_end_31 ?_
        refine v_aload_n o dX11_end_34 rfl 0 rfl ?_
        refine gt_11_12 o hK0 ln_5_107 dX11_end_35 ?_
        obtain ⟨hr, hs⟩ := Prod.mk.inj (z_some h)
        subst hr
        subst hs
        exact v_ireturn o dX11_end_38
      · replace h := z_in c3 h
        refine v_iconst o (-1 : Int32) dX11_end_19 (by decide) ?_
        obtain ⟨hr, hs⟩ := Prod.mk.inj (z_some h)
        subst hr
        subst hs
        exact v_ireturn o dX11_end_20
theorem e_X11_end {q : z_Q} {l : Launch} {G : z_G} {D : z_D} {a0 : Nat} {a1 : Int32} {r : Int32} {D1 : z_D} (hK0 : z_K G a0 = 111) (h : f_X11_end G D a0 a1 = some (r, D1)) : z_E q l yX11_end cX11_end 2 (some .int) 0 0 0 [.ref (z_w q a0), .int a1] G D (some (.int r)) G D1 :=
  z_E.of (by decide) (Nat.le_of_ble_eq_true rfl) (fun X hX _ o => b_X11_end o hX hK0 h)
def f_X11_byteOf (G : z_G) (D : z_D) (a0 : Nat) (a1 : Int32) : Option (Int32) :=
  (if a1 < (0 : Int32) then (((some (-1 : Int32)))) else ((if a1 < (z_I D 1112 a0) then (z_gK G 1 (z_R G 1111 a0) (z_gA G 1 (z_R G 1111 a0) a1 ((some (z_U D (z_R G 1111 a0) (a1).toNatClampNeg))))) else (((some (-1 : Int32)))))))
set_option maxRecDepth 100000 in
set_option maxHeartbeats 4000000 in
theorem b_X11_byteOf {q : z_Q} {X : z_X} {G : z_G} {D : z_D} {a0 : Nat} {a1 : Int32} {r : Int32} (o : z_O q X cX11_byteOf 2 "FlashTrustModel" "byteOf" (some .int)) (hX : x_R X = z_rm 0 0 0) (hK0 : z_K G a0 = 111) (h : f_X11_byteOf G D a0 a1 = some r) : z_V q X 2 (z_F q X (some (.int r)) G D 0 0) 0 0 G D 0 [(0, .ref (z_w q a0)), (1, .int a1)] [] := by
  unfold f_X11_byteOf at h
  refine v_iload_n o dX11_byteOf_0 rfl 1 rfl ?_
  refine v_if_lt o 12 dX11_byteOf_1 (by decide) (fun c1 => ?_) (fun c1 => ?_)
  · replace h := z_ip c1 h
    refine v_iconst o (-1 : Int32) dX11_byteOf_12 (by decide) ?_
    refine v_goto o 22 dX11_byteOf_13 (by decide) ?_
    have hr := z_some h
    subst hr
    exact v_ireturn o dX11_byteOf_22
  · replace h := z_in c1 h
    refine v_iload_n o dX11_byteOf_4 rfl 1 rfl ?_
    refine v_aload_n o dX11_byteOf_5 rfl 0 rfl ?_
    refine gt_11_12 o hK0 ln_5_107 dX11_byteOf_6 ?_
    refine v_icmp_lt o 16 dX11_byteOf_9 (by decide) (fun c2 => ?_) (fun c2 => ?_)
    · replace h := z_ip c2 h
      refine v_aload_n o dX11_byteOf_16 rfl 0 rfl ?_
      obtain ⟨n3, h⟩ := z_gK_of h
      refine gt_11_11 o hK0 ln_5_106 (by rw [n3]; decide) dX11_byteOf_17 ?_
      refine v_iload_n o dX11_byteOf_20 rfl 1 rfl ?_
      obtain ⟨n4, n5, h⟩ := z_gA_of h
      refine v_iald o n4 n5 dX11_byteOf_21 ?_
      have hr := z_some h
      subst hr
      exact v_ireturn o dX11_byteOf_22
    · replace h := z_in c2 h
      refine v_iconst o (-1 : Int32) dX11_byteOf_12 (by decide) ?_
      refine v_goto o 22 dX11_byteOf_13 (by decide) ?_
      have hr := z_some h
      subst hr
      exact v_ireturn o dX11_byteOf_22
theorem e_X11_byteOf {q : z_Q} {l : Launch} {G : z_G} {D : z_D} {a0 : Nat} {a1 : Int32} {r : Int32} (hK0 : z_K G a0 = 111) (h : f_X11_byteOf G D a0 a1 = some r) : z_E q l yX11_byteOf cX11_byteOf 2 (some .int) 0 0 0 [.ref (z_w q a0), .int a1] G D (some (.int r)) G D :=
  z_E.of (by decide) (Nat.le_of_ble_eq_true rfl) (fun X hX _ o => b_X11_byteOf o hX hK0 h)
def f_X11_spoil (G : z_G) (D : z_D) (a0 : Nat) (a1 : Int32) (a2 : Int32) : Option (Int32 × z_D) :=
  (if a1 < (0 : Int32) then ((some ((-1 : Int32), D))) else ((if (z_I D 1112 a0) ≤ a1 then ((some ((-1 : Int32), D))) else ((if a2 < (1 : Int32) then ((some ((-1 : Int32), D))) else ((if a2 ≤ (255 : Int32) then (z_gK G 1 (z_R G 1111 a0) (z_gA G 1 (z_R G 1111 a0) a1 (z_gA G 1 (z_R G 1111 a0) a1 (z_gA G 1 (z_R G 1111 a0) a1 ((some ((z_U (z_sU D (z_R G 1111 a0) (a1).toNatClampNeg ((z_U D (z_R G 1111 a0) (a1).toNatClampNeg) ^^^ a2)) (z_R G 1111 a0) (a1).toNatClampNeg), (z_sU D (z_R G 1111 a0) (a1).toNatClampNeg ((z_U D (z_R G 1111 a0) (a1).toNatClampNeg) ^^^ a2))))))))) else ((some ((-1 : Int32), D))))))))))
set_option maxRecDepth 100000 in
set_option maxHeartbeats 4000000 in
theorem b_X11_spoil {q : z_Q} {X : z_X} {G : z_G} {D : z_D} {a0 : Nat} {a1 : Int32} {a2 : Int32} {r : Int32} {D1 : z_D} (o : z_O q X cX11_spoil 3 "FlashTrustModel" "spoil" (some .int)) (hX : x_R X = z_rm 0 0 0) (hK0 : z_K G a0 = 111) (h : f_X11_spoil G D a0 a1 a2 = some (r, D1)) : z_V q X 3 (z_F q X (some (.int r)) G D1 0 0) 0 0 G D 0 [(0, .ref (z_w q a0)), (1, .int a1), (2, .int a2)] [] := by
  unfold f_X11_spoil at h
  refine v_iload_n o dX11_spoil_0 rfl 1 rfl ?_
  refine v_if_lt o 24 dX11_spoil_1 (by decide) (fun c1 => ?_) (fun c1 => ?_)
  · replace h := z_ip c1 h
    refine v_iconst o (-1 : Int32) dX11_spoil_24 (by decide) ?_
    obtain ⟨hr, hs⟩ := Prod.mk.inj (z_some h)
    subst hr
    subst hs
    exact v_ireturn o dX11_spoil_25
  · replace h := z_in c1 h
    refine v_iload_n o dX11_spoil_4 rfl 1 rfl ?_
    refine v_aload_n o dX11_spoil_5 rfl 0 rfl ?_
    refine gt_11_12 o hK0 ln_5_107 dX11_spoil_6 ?_
    refine v_icmp_ge o 24 dX11_spoil_9 (by decide) (fun c2 => ?_) (fun c2 => ?_)
    · replace h := z_ip c2 h
      refine v_iconst o (-1 : Int32) dX11_spoil_24 (by decide) ?_
      obtain ⟨hr, hs⟩ := Prod.mk.inj (z_some h)
      subst hr
      subst hs
      exact v_ireturn o dX11_spoil_25
    · replace h := z_in c2 h
      refine v_iload_n o dX11_spoil_12 rfl 2 rfl ?_
      refine v_iconst o (1 : Int32) dX11_spoil_13 (by decide) ?_
      refine v_icmp_lt o 24 dX11_spoil_14 (by decide) (fun c3 => ?_) (fun c3 => ?_)
      · replace h := z_ip c3 h
        refine v_iconst o (-1 : Int32) dX11_spoil_24 (by decide) ?_
        obtain ⟨hr, hs⟩ := Prod.mk.inj (z_some h)
        subst hr
        subst hs
        exact v_ireturn o dX11_spoil_25
      · replace h := z_in c3 h
        refine v_iload_n o dX11_spoil_17 rfl 2 rfl ?_
        refine v_sipush o (255 : Int32) dX11_spoil_18 (by decide) ?_
        refine v_icmp_le o 26 dX11_spoil_21 (by decide) (fun c4 => ?_) (fun c4 => ?_)
        · replace h := z_ip c4 h
          refine v_aload_n o dX11_spoil_26 rfl 0 rfl ?_
          obtain ⟨n5, h⟩ := z_gK_of h
          refine gt_11_11 o hK0 ln_5_106 (by rw [n5]; decide) dX11_spoil_27 ?_
          refine v_iload_n o dX11_spoil_30 rfl 1 rfl ?_
          refine v_dup2 o dX11_spoil_31 rfl rfl ?_
          obtain ⟨n6, n7, h⟩ := z_gA_of h
          refine v_iald o n6 n7 dX11_spoil_32 ?_
          refine v_iload_n o dX11_spoil_33 rfl 2 rfl ?_
          refine v_ixor o dX11_spoil_34 ?_
          obtain ⟨n8, n9, h⟩ := z_gA_of h
          refine v_iast o n8 n9 dX11_spoil_35 ?_
          refine v_aload_n o dX11_spoil_36 rfl 0 rfl ?_
          refine gt_11_11 o hK0 ln_5_106 (by rw [n5]; decide) dX11_spoil_37 ?_
          refine v_iload_n o dX11_spoil_40 rfl 1 rfl ?_
          obtain ⟨n10, n11, h⟩ := z_gA_of h
          refine v_iald o n10 n11 dX11_spoil_41 ?_
          obtain ⟨hr, hs⟩ := Prod.mk.inj (z_some h)
          subst hr
          subst hs
          exact v_ireturn o dX11_spoil_42
        · replace h := z_in c4 h
          refine v_iconst o (-1 : Int32) dX11_spoil_24 (by decide) ?_
          obtain ⟨hr, hs⟩ := Prod.mk.inj (z_some h)
          subst hr
          subst hs
          exact v_ireturn o dX11_spoil_25
theorem e_X11_spoil {q : z_Q} {l : Launch} {G : z_G} {D : z_D} {a0 : Nat} {a1 : Int32} {a2 : Int32} {r : Int32} {D1 : z_D} (hK0 : z_K G a0 = 111) (h : f_X11_spoil G D a0 a1 a2 = some (r, D1)) : z_E q l yX11_spoil cX11_spoil 3 (some .int) 0 0 0 [.ref (z_w q a0), .int a1, .int a2] G D (some (.int r)) G D1 :=
  z_E.of (by decide) (Nat.le_of_ble_eq_true rfl) (fun X hX _ o => b_X11_spoil o hX hK0 h)
def p_X11_digest_6 (q : z_Q) (X : z_X) (Q : State → Prop) (G : z_G) (a0 : Nat) : (z_D × Int32) → Prop := (fun v => z_V q X 2 Q 0 0 G v.1 6 [(0, .ref (z_w q a0)), (1, .int v.2)] [])
def x_X11_digest_6 (q : z_Q) (X : z_X) (Q : State → Prop) (G : z_G) (a0 : Nat) : z_D → Prop := (fun v => z_V q X 2 Q 0 0 G v 30 [(0, .ref (z_w q a0))] [])
def k_X11_digest_6 (q : z_Q) (X : z_X) (Q : State → Prop) (G : z_G) (a0 : Nat) : (z_D × Int32) ⊕ z_D → Prop := Sum.elim (p_X11_digest_6 q X Q G a0) (x_X11_digest_6 q X Q G a0)
def c_X11_digest_6 (G : z_G) (D : z_D) (a0 : Nat) (a1 : Int32) : Option ((z_D × Int32) ⊕ z_D) :=
  (if (z_I D 1112 a0) ≤ a1 then (some (.inr D)) else (z_gK G 1 (z_R G 1111 a0) (z_gA G 1 (z_R G 1111 a0) a1 ((f_X11_digestByte G D a0 (z_U D (z_R G 1111 a0) (a1).toNatClampNeg)).bind (fun D8 => ((some (.inl (D8, (a1 + (1 : Int32)))))))))))
set_option maxRecDepth 100000 in
set_option maxHeartbeats 4000000 in
theorem tc_X11_digest_6 {q : z_Q} {X : z_X} {G : z_G} {D : z_D} {Q : State → Prop} {a0 : Nat} {a1 : Int32} (o : z_O q X cX11_digest 2 "FlashTrustModel" "digest" (some .long)) (hX : x_R X = z_rm 1 0 0) (hK0 : z_K G a0 = 111) {ρ : (z_D × Int32) ⊕ z_D} (h : c_X11_digest_6 G D a0 a1 = some ρ) (hk : k_X11_digest_6 q X Q G a0 ρ) : z_V q X 2 Q 0 0 G D 6 [(0, .ref (z_w q a0)), (1, .int a1)] [] := by
  unfold c_X11_digest_6 at h
  refine v_iload_n o dX11_digest_6 rfl 1 rfl ?_
  refine v_aload_n o dX11_digest_7 rfl 0 rfl ?_
  refine gt_11_12 o hK0 ln_5_107 dX11_digest_8 ?_
  refine v_icmp_ge o 30 dX11_digest_11 (by decide) (fun c3 => ?_) (fun c3 => ?_)
  · replace h := z_ip c3 h
    obtain rfl := z_some h
    refine v_sub [0] rfl ?_
    exact hk
  · replace h := z_in c3 h
    refine v_aload_n o dX11_digest_14 rfl 0 rfl ?_
    refine v_aload_n o dX11_digest_15 rfl 0 rfl ?_
    obtain ⟨n4, h⟩ := z_gK_of h
    refine gt_11_11 o hK0 ln_5_106 (by rw [n4]; decide) dX11_digest_16 ?_
    refine v_iload_n o dX11_digest_19 rfl 1 rfl ?_
    obtain ⟨n5, n6, h⟩ := z_gA_of h
    refine v_iald o n5 n6 dX11_digest_20 ?_
    obtain ⟨D8, he7, h⟩ := z_bind h
    refine v_callV o yw_X11_digestByte ln_5_57 wi_X11_digestByte ws_X11_digestByte hX (by decide) 11 rfl hK0 (As := [.int (z_U D (z_R G 1111 a0) (a1).toNatClampNeg)]) rfl rfl (Nat.le_of_ble_eq_true rfl) (e_X11_digestByte hK0 he7) dX11_digest_21 ?_
    refine v_iinc o (a1 + (1 : Int32)) [(1, .int (a1 + (1 : Int32))), (0, .ref (z_w q a0))] dX11_digest_24 1 rfl rfl (by decide) rfl ?_
    refine v_goto o 6 dX11_digest_27 (by decide) ?_
    obtain rfl := z_some h
    refine v_sub [1, 0] rfl ?_
    exact hk
def f_X11_digest (G : z_G) (D : z_D) (a0 : Nat) : Option (Int64 × z_D) :=
  (f_X11_digestBegin G D a0).bind (fun D2 => (((z_loop (fun v => c_X11_digest_6 G v.1 a0 v.2) 4000 (D2, (0 : Int32))).bind (fun e9 => (some ((z_J e9 1110 a0), e9))))))
set_option maxRecDepth 100000 in
set_option maxHeartbeats 4000000 in
theorem b_X11_digest {q : z_Q} {X : z_X} {G : z_G} {D : z_D} {a0 : Nat} {r : Int64} {D1 : z_D} (o : z_O q X cX11_digest 2 "FlashTrustModel" "digest" (some .long)) (hX : x_R X = z_rm 1 0 0) (hK0 : z_K G a0 = 111) (h : f_X11_digest G D a0 = some (r, D1)) : z_V q X 2 (z_F q X (some (.long r)) G D1 0 0) 0 0 G D 0 [(0, .ref (z_w q a0))] [] := by
  unfold f_X11_digest at h
  refine v_aload_n o dX11_digest_0 rfl 0 rfl ?_
  obtain ⟨D2, he1, h⟩ := z_bind h
  refine v_callV o yw_X11_digestBegin ln_5_52 wi_X11_digestBegin ws_X11_digestBegin hX (by decide) 11 rfl hK0 (As := []) rfl rfl (Nat.le_of_ble_eq_true rfl) (e_X11_digestBegin hK0 he1) dX11_digest_1 ?_
  refine v_iconst o (0 : Int32) dX11_digest_4 (by decide) ?_
  refine v_istore_n o [(1, .int (0 : Int32)), (0, .ref (z_w q a0))] dX11_digest_5 rfl (by decide) rfl ?_
  refine v_sub [1, 0] rfl ?_
  obtain ⟨e9, he10, h⟩ := z_bind h
  refine z_loopV (P := p_X11_digest_6 q X _ G a0) (E := x_X11_digest_6 q X _ G a0) (fun v ρ hb hk => tc_X11_digest_6 (D := v.1) (a0 := a0) (a1 := v.2) o hX hK0 hb hk) 4000 _ e9 he10 ?_
  show z_V q X 2 _ _ _ G e9 30 [(0, .ref (z_w q a0))] []
  refine v_aload_n o dX11_digest_30 rfl 0 rfl ?_
  refine gt_11_10 o hK0 ln_5_105 dX11_digest_31 ?_
  obtain ⟨hr, hs⟩ := Prod.mk.inj (z_some h)
  subst hr
  subst hs
  exact v_lreturn o dX11_digest_34
theorem e_X11_digest {q : z_Q} {l : Launch} {G : z_G} {D : z_D} {a0 : Nat} {r : Int64} {D1 : z_D} (hK0 : z_K G a0 = 111) (h : f_X11_digest G D a0 = some (r, D1)) : z_E q l yX11_digest cX11_digest 2 (some .long) 1 0 0 [.ref (z_w q a0)] G D (some (.long r)) G D1 :=
  z_E.of (by decide) (Nat.le_of_ble_eq_true rfl) (fun X hX _ o => b_X11_digest o hX hK0 h)
def f_X11_hasPower (G : z_G) (D : z_D) (a0 : Nat) : Option (Int32 × z_D) :=
  (if (z_I D 1106 a0) = (0 : Int32) then ((some ((0 : Int32), (z_sI (z_sI (z_sI (z_sI (z_sI D 1106 a0 (-1 : Int32)) 1103 a0 (1 : Int32)) 1108 a0 (0 : Int32)) 1109 a0 (0 : Int32)) 1148 a0 (0 : Int32))))) else ((if (z_I D 1106 a0) ≤ (0 : Int32) then ((some ((1 : Int32), (z_sI D 1106 a0 (z_I D 1106 a0))))) else (((some ((1 : Int32), (z_sI D 1106 a0 ((z_I D 1106 a0) - (1 : Int32))))))))))
set_option maxRecDepth 100000 in
set_option maxHeartbeats 4000000 in
theorem b_X11_hasPower {q : z_Q} {X : z_X} {G : z_G} {D : z_D} {a0 : Nat} {r : Int32} {D1 : z_D} (o : z_O q X cX11_hasPower 1 "FlashTrustModel" "hasPower" (some .boolean)) (hX : x_R X = z_rm 0 0 0) (hK0 : z_K G a0 = 111) (h : f_X11_hasPower G D a0 = some (r, D1)) : z_V q X 1 (z_F q X (some (.int r)) G D1 0 0) 0 0 G D 0 [(0, .ref (z_w q a0))] [] := by
  unfold f_X11_hasPower at h
  refine v_aload_n o dX11_hasPower_0 rfl 0 rfl ?_
  refine gt_11_6 o hK0 ln_5_101 dX11_hasPower_1 ?_
  refine v_if_ne o 34 dX11_hasPower_4 (by decide) (fun c1 => ?_) (fun c1 => ?_)
  · replace h := z_in c1 h
    refine v_aload_n o dX11_hasPower_34 rfl 0 rfl ?_
    refine v_aload_n o dX11_hasPower_35 rfl 0 rfl ?_
    refine gt_11_6 o hK0 ln_5_101 dX11_hasPower_36 ?_
    refine v_if_le o 51 dX11_hasPower_39 (by decide) (fun c2 => ?_) (fun c2 => ?_)
    · replace h := z_ip c2 h
      refine v_aload_n o dX11_hasPower_51 rfl 0 rfl ?_
      refine gt_11_6 o hK0 ln_5_101 dX11_hasPower_52 ?_
      refine pt_11_6 o hK0 ln_5_101 dX11_hasPower_55 ?_
      refine v_iconst o (1 : Int32) dX11_hasPower_58 (by decide) ?_
      obtain ⟨hr, hs⟩ := Prod.mk.inj (z_some h)
      subst hr
      subst hs
      exact v_zreturn o (by decide) dX11_hasPower_59
    · replace h := z_in c2 h
      refine v_aload_n o dX11_hasPower_42 rfl 0 rfl ?_
      refine gt_11_6 o hK0 ln_5_101 dX11_hasPower_43 ?_
      refine v_iconst o (1 : Int32) dX11_hasPower_46 (by decide) ?_
      refine v_isub o dX11_hasPower_47 ?_
      refine v_goto o 55 dX11_hasPower_48 (by decide) ?_
      refine pt_11_6 o hK0 ln_5_101 dX11_hasPower_55 ?_
      refine v_iconst o (1 : Int32) dX11_hasPower_58 (by decide) ?_
      obtain ⟨hr, hs⟩ := Prod.mk.inj (z_some h)
      subst hr
      subst hs
      exact v_zreturn o (by decide) dX11_hasPower_59
  · replace h := z_ip c1 h
    refine v_aload_n o dX11_hasPower_7 rfl 0 rfl ?_
    refine v_iconst o (-1 : Int32) dX11_hasPower_8 (by decide) ?_
    refine pt_11_6 o hK0 ln_5_101 dX11_hasPower_9 ?_
    refine v_aload_n o dX11_hasPower_12 rfl 0 rfl ?_
    refine v_iconst o (1 : Int32) dX11_hasPower_13 (by decide) ?_
    refine pt_11_3 o hK0 ln_5_98 (by decide) dX11_hasPower_14 ?_
    refine v_aload_n o dX11_hasPower_17 rfl 0 rfl ?_
    refine v_iconst o (0 : Int32) dX11_hasPower_18 (by decide) ?_
    refine pt_11_8 o hK0 ln_5_103 dX11_hasPower_19 ?_
    refine v_aload_n o dX11_hasPower_22 rfl 0 rfl ?_
    refine v_iconst o (0 : Int32) dX11_hasPower_23 (by decide) ?_
    refine pt_11_9 o hK0 ln_5_104 (by decide) dX11_hasPower_24 ?_
    refine v_aload_n o dX11_hasPower_27 rfl 0 rfl ?_
    refine v_iconst o (0 : Int32) dX11_hasPower_28 (by decide) ?_
    refine pt_11_48 o hK0 ln_5_143 dX11_hasPower_29 ?_
    refine v_iconst o (0 : Int32) dX11_hasPower_32 (by decide) ?_
    obtain ⟨hr, hs⟩ := Prod.mk.inj (z_some h)
    subst hr
    subst hs
    exact v_zreturn o (by decide) dX11_hasPower_33
theorem e_X11_hasPower {q : z_Q} {l : Launch} {G : z_G} {D : z_D} {a0 : Nat} {r : Int32} {D1 : z_D} (hK0 : z_K G a0 = 111) (h : f_X11_hasPower G D a0 = some (r, D1)) : z_E q l yX11_hasPower cX11_hasPower 1 (some .boolean) 0 0 0 [.ref (z_w q a0)] G D (some (.int r)) G D1 :=
  z_E.of (by decide) (Nat.le_of_ble_eq_true rfl) (fun X hX _ o => b_X11_hasPower o hX hK0 h)
def p_X11_writePage_27 (q : z_Q) (X : z_X) (Q : State → Prop) (G : z_G) (a0 : Nat) (a1 : Int32) : (z_D × Int32) → Prop := (fun v => z_V q X 3 Q 0 0 G v.1 27 [(0, .ref (z_w q a0)), (1, .int a1), (2, .int v.2)] [])
def x_X11_writePage_27 (q : z_Q) (X : z_X) (Q : State → Prop) (G : z_G) (a0 : Nat) (a1 : Int32) : z_D → Prop := (fun v => z_V q X 3 Q 0 0 G v 56 [] [])
def k_X11_writePage_27 (q : z_Q) (X : z_X) (Q : State → Prop) (G : z_G) (a0 : Nat) (a1 : Int32) : (z_D × Int32) ⊕ z_D → Prop := Sum.elim (p_X11_writePage_27 q X Q G a0 a1) (x_X11_writePage_27 q X Q G a0 a1)
def c_X11_writePage_27 (G : z_G) (D : z_D) (a0 : Nat) (a1 : Int32) (a2 : Int32) : Option ((z_D × Int32) ⊕ z_D) :=
  (if (32 : Int32) ≤ a2 then (some (.inr D)) else (z_gK G 1 (z_R G 1100 a0) (z_gA G 1 (z_R G 1100 a0) (a1 + a2) (z_gK G 1 (z_R G 1113 a0) (z_gA G 1 (z_R G 1113 a0) a2 (z_gA G 1 (z_R G 1100 a0) (a1 + a2) ((some (.inl ((z_sU D (z_R G 1100 a0) ((a1 + a2)).toNatClampNeg ((z_U D (z_R G 1100 a0) ((a1 + a2)).toNatClampNeg) &&& (z_U D (z_R G 1113 a0) (a2).toNatClampNeg))), (a2 + (1 : Int32))))))))))))
set_option maxRecDepth 100000 in
set_option maxHeartbeats 4000000 in
theorem tc_X11_writePage_27 {q : z_Q} {X : z_X} {G : z_G} {D : z_D} {Q : State → Prop} {a0 : Nat} {a1 : Int32} {a2 : Int32} (o : z_O q X cX11_writePage 3 "FlashTrustModel" "writePage" none) (hX : x_R X = z_rm 1 0 0) (hK0 : z_K G a0 = 111) {ρ : (z_D × Int32) ⊕ z_D} (h : c_X11_writePage_27 G D a0 a1 a2 = some ρ) (hk : k_X11_writePage_27 q X Q G a0 a1 ρ) : z_V q X 3 Q 0 0 G D 27 [(0, .ref (z_w q a0)), (1, .int a1), (2, .int a2)] [] := by
  unfold c_X11_writePage_27 at h
  refine v_iload_n o dX11_writePage_27 rfl 2 rfl ?_
  refine v_bipush o (32 : Int32) dX11_writePage_28 (by decide) ?_
  refine v_icmp_ge o 56 dX11_writePage_30 (by decide) (fun c5 => ?_) (fun c5 => ?_)
  · replace h := z_ip c5 h
    obtain rfl := z_some h
    refine v_sub [] rfl ?_
    exact hk
  · replace h := z_in c5 h
    refine v_aload_n o dX11_writePage_33 rfl 0 rfl ?_
    obtain ⟨n6, h⟩ := z_gK_of h
    refine gt_11_0 o hK0 ln_5_95 (by rw [n6]; decide) dX11_writePage_34 ?_
    refine v_iload_n o dX11_writePage_37 rfl 1 rfl ?_
    refine v_iload_n o dX11_writePage_38 rfl 2 rfl ?_
    refine v_iadd o dX11_writePage_39 ?_
    refine v_dup2 o dX11_writePage_40 rfl rfl ?_
    obtain ⟨n7, n8, h⟩ := z_gA_of h
    refine v_iald o n7 n8 dX11_writePage_41 ?_
    refine v_aload_n o dX11_writePage_42 rfl 0 rfl ?_
    obtain ⟨n9, h⟩ := z_gK_of h
    refine gt_11_13 o hK0 ln_5_108 (by rw [n9]; decide) dX11_writePage_43 ?_
    refine v_iload_n o dX11_writePage_46 rfl 2 rfl ?_
    obtain ⟨n10, n11, h⟩ := z_gA_of h
    refine v_iald o n10 n11 dX11_writePage_47 ?_
    refine v_iand o dX11_writePage_48 ?_
    obtain ⟨n12, n13, h⟩ := z_gA_of h
    refine v_iast o n12 n13 dX11_writePage_49 ?_
    refine v_iinc o (a2 + (1 : Int32)) [(2, .int (a2 + (1 : Int32))), (0, .ref (z_w q a0)), (1, .int a1)] dX11_writePage_50 2 rfl rfl (by decide) rfl ?_
    refine v_goto o 27 dX11_writePage_53 (by decide) ?_
    obtain rfl := z_some h
    refine v_sub [1, 2, 0] rfl ?_
    exact hk
def f_X11_writePage (G : z_G) (D : z_D) (a0 : Nat) (a1 : Int32) : Option (z_D) :=
  (if (z_I D 1103 a0) = (0 : Int32) then ((f_X11_hasPower G (z_sI D 1104 a0 ((z_I D 1104 a0) + (1 : Int32))) a0).bind (fun p3 => ((if p3.1 = (0 : Int32) then ((some p3.2)) else (((z_loop (fun v => c_X11_writePage_27 G v.1 a0 a1 v.2) 4000 (p3.2, (0 : Int32))).bind (fun e14 => (some e14)))))))) else ((some D)))
set_option maxRecDepth 100000 in
set_option maxHeartbeats 4000000 in
theorem b_X11_writePage {q : z_Q} {X : z_X} {G : z_G} {D : z_D} {a0 : Nat} {a1 : Int32}  {D1 : z_D} (o : z_O q X cX11_writePage 3 "FlashTrustModel" "writePage" none) (hX : x_R X = z_rm 1 0 0) (hK0 : z_K G a0 = 111) (h : f_X11_writePage G D a0 a1 = some D1) : z_V q X 3 (z_F q X none G D1 0 0) 0 0 G D 0 [(0, .ref (z_w q a0)), (1, .int a1)] [] := by
  unfold f_X11_writePage at h
  refine v_aload_n o dX11_writePage_0 rfl 0 rfl ?_
  refine gt_11_3 o hK0 ln_5_98 dX11_writePage_1 ?_
  refine v_if_eq o 8 dX11_writePage_4 (by decide) (fun c1 => ?_) (fun c1 => ?_)
  · replace h := z_ip c1 h
    refine v_aload_n o dX11_writePage_8 rfl 0 rfl ?_
    refine v_dup o dX11_writePage_9 rfl ?_
    refine gt_11_4 o hK0 ln_5_99 dX11_writePage_10 ?_
    refine v_iconst o (1 : Int32) dX11_writePage_13 (by decide) ?_
    refine v_iadd o dX11_writePage_14 ?_
    refine pt_11_4 o hK0 ln_5_99 dX11_writePage_15 ?_
    refine v_aload_n o dX11_writePage_18 rfl 0 rfl ?_
    obtain ⟨p3, he2, h⟩ := z_bind h
    refine v_callV o yw_X11_hasPower ln_6_125 wi_X11_hasPower ws_X11_hasPower hX (by decide) 11 rfl hK0 (As := []) rfl rfl (Nat.le_of_ble_eq_true rfl) (e_X11_hasPower hK0 he2) dX11_writePage_19 ?_
    refine v_if_eq o 56 dX11_writePage_22 (by decide) (fun c4 => ?_) (fun c4 => ?_)
    · replace h := z_ip c4 h
      have hr := z_some h
      subst hr
      exact v_return o dX11_writePage_56
    · replace h := z_in c4 h
      refine v_iconst o (0 : Int32) dX11_writePage_25 (by decide) ?_
      refine v_istore_n o [(2, .int (0 : Int32)), (0, .ref (z_w q a0)), (1, .int a1)] dX11_writePage_26 rfl (by decide) rfl ?_
      refine v_sub [1, 2, 0] rfl ?_
      obtain ⟨e14, he15, h⟩ := z_bind h
      refine z_loopV (P := p_X11_writePage_27 q X _ G a0 a1) (E := x_X11_writePage_27 q X _ G a0 a1) (fun v ρ hb hk => tc_X11_writePage_27 (D := v.1) (a0 := a0) (a1 := a1) (a2 := v.2) o hX hK0 hb hk) 4000 _ e14 he15 ?_
      show z_V q X 3 _ _ _ G e14 56 [] []
      have hr := z_some h
      subst hr
      exact v_return o dX11_writePage_56
  · replace h := z_in c1 h
    have hr := z_some h
    subst hr
    exact v_return o dX11_writePage_7
theorem e_X11_writePage {q : z_Q} {l : Launch} {G : z_G} {D : z_D} {a0 : Nat} {a1 : Int32}  {D1 : z_D} (hK0 : z_K G a0 = 111) (h : f_X11_writePage G D a0 a1 = some D1) : z_E q l yX11_writePage cX11_writePage 3 none 1 0 0 [.ref (z_w q a0), .int a1] G D none G D1 :=
  z_E.of (by decide) (Nat.le_of_ble_eq_true rfl) (fun X hX _ o => b_X11_writePage o hX hK0 h)
def p_X11_erase_25 (q : z_Q) (X : z_X) (Q : State → Prop) (G : z_G) (a0 : Nat) (a1 : Int32) (a2 : Int32) : (z_D × Int32) → Prop := (fun v => z_V q X 6 Q 0 0 G v.1 25 [(0, .ref (z_w q a0)), (1, .int a1), (2, .int a2), (3, .int v.2)] [])
def x_X11_erase_25 (q : z_Q) (X : z_X) (Q : State → Prop) (G : z_G) (a0 : Nat) (a1 : Int32) (a2 : Int32) : z_D → Prop := (fun v => z_V q X 6 Q 0 0 G v 98 [] [])
def k_X11_erase_25 (q : z_Q) (X : z_X) (Q : State → Prop) (G : z_G) (a0 : Nat) (a1 : Int32) (a2 : Int32) : (z_D × Int32) ⊕ z_D → Prop := Sum.elim (p_X11_erase_25 q X Q G a0 a1 a2) (x_X11_erase_25 q X Q G a0 a1 a2)
def j_X11_erase_L25_64 (G : z_G) (D : z_D) (a0 : Nat) (a1 : Int32) (a2 : Int32) (a3 : Int32) (a4 : Int32) (s0 : Int32) : Option ((z_D × Int32) ⊕ z_D) :=
  z_gK G 1 (z_R G 1100 a0) (z_gA G 1 (z_R G 1100 a0) a4 (z_gA G 1 (z_R G 1100 a0) a4 ((some (.inl ((z_sU D (z_R G 1100 a0) (a4).toNatClampNeg (((z_U D (z_R G 1100 a0) (a4).toNatClampNeg) &&& s0) ||| ((255 : Int32) &&& (s0 ^^^ (-1 : Int32))))), (a3 + (1 : Int32))))))))
set_option maxRecDepth 100000 in
set_option maxHeartbeats 4000000 in
theorem tj_X11_erase_L25_64 {q : z_Q} {X : z_X} {G : z_G} {D : z_D} {Q : State → Prop}  {a0 : Nat} {a1 : Int32} {a2 : Int32} {a3 : Int32} {a4 : Int32} {s0 : Int32} (o : z_O q X cX11_erase 6 "FlashTrustModel" "erase" none) (hX : x_R X = z_rm 1 0 0) (hK0 : z_K G a0 = 111) {ρ : (z_D × Int32) ⊕ z_D} (h : j_X11_erase_L25_64 G D a0 a1 a2 a3 a4 s0 = some ρ) (hk : k_X11_erase_25 q X Q G a0 a1 a2 ρ) : z_V q X 6 Q 0 0 G D 64 [(0, .ref (z_w q a0)), (1, .int a1), (2, .int a2), (3, .int a3), (4, .int a4)] [.int s0] := by
  unfold j_X11_erase_L25_64 at h
  refine v_istore o [(5, .int s0), (0, .ref (z_w q a0)), (1, .int a1), (2, .int a2), (3, .int a3), (4, .int a4)] dX11_erase_64 (by decide) rfl ?_
  refine v_aload_n o dX11_erase_66 rfl 1 rfl ?_
  obtain ⟨n6, h⟩ := z_gK_of h
  refine gt_11_0 o hK0 ln_5_95 (by rw [n6]; decide) dX11_erase_67 ?_
  refine v_iload o dX11_erase_70 5 rfl ?_
  refine v_aload_n o dX11_erase_72 rfl 1 rfl ?_
  refine gt_11_0 o hK0 ln_5_95 (by rw [n6]; decide) dX11_erase_73 ?_
  refine v_iload o dX11_erase_76 5 rfl ?_
  obtain ⟨n7, n8, h⟩ := z_gA_of h
  refine v_iald o n7 n8 dX11_erase_78 ?_
  refine v_iload o dX11_erase_79 0 rfl ?_
  refine v_iand o dX11_erase_81 ?_
  refine v_sipush o (255 : Int32) dX11_erase_82 (by decide) ?_
  refine v_iload o dX11_erase_85 0 rfl ?_
  refine v_iconst o (-1 : Int32) dX11_erase_87 (by decide) ?_
  refine v_ixor o dX11_erase_88 ?_
  refine v_iand o dX11_erase_89 ?_
  refine v_ior o dX11_erase_90 ?_
  obtain ⟨n9, n10, h⟩ := z_gA_of h
  refine v_iast o n9 n10 dX11_erase_91 ?_
  refine v_iinc o (a3 + (1 : Int32)) [(3, .int (a3 + (1 : Int32))), (5, .int s0), (0, .ref (z_w q a0)), (1, .int a1), (2, .int a2), (4, .int a4)] dX11_erase_92 4 rfl rfl (by decide) rfl ?_
  refine v_goto o 25 dX11_erase_95 (by decide) ?_
  obtain rfl := z_some h
  refine v_sub [2, 3, 4, 0] rfl ?_
  exact hk
def c_X11_erase_25 (G : z_G) (D : z_D) (a0 : Nat) (a1 : Int32) (a2 : Int32) (a3 : Int32) : Option ((z_D × Int32) ⊕ z_D) :=
  (if (128 : Int32) ≤ a3 then (some (.inr D)) else ((if a2 = (0 : Int32) then ((j_X11_erase_L25_64 G D  a0 a1 a2 a3 (((128 : Int32) * a1) + a3) (((z_I D 1107 a0) >>> (((8 : Int32) * (a3 - a3 / (4 : Int32) * (4 : Int32))) &&& 31)) &&& (255 : Int32)))) else ((j_X11_erase_L25_64 G D  a0 a1 a2 a3 (((128 : Int32) * a1) + a3) (0 : Int32))))))
set_option maxRecDepth 100000 in
set_option maxHeartbeats 4000000 in
theorem tc_X11_erase_25 {q : z_Q} {X : z_X} {G : z_G} {D : z_D} {Q : State → Prop} {a0 : Nat} {a1 : Int32} {a2 : Int32} {a3 : Int32} (o : z_O q X cX11_erase 6 "FlashTrustModel" "erase" none) (hX : x_R X = z_rm 1 0 0) (hK0 : z_K G a0 = 111) {ρ : (z_D × Int32) ⊕ z_D} (h : c_X11_erase_25 G D a0 a1 a2 a3 = some ρ) (hk : k_X11_erase_25 q X Q G a0 a1 a2 ρ) : z_V q X 6 Q 0 0 G D 25 [(0, .ref (z_w q a0)), (1, .int a1), (2, .int a2), (3, .int a3)] [] := by
  unfold c_X11_erase_25 at h
  refine v_iload_n o dX11_erase_25 rfl 3 rfl ?_
  refine v_sipush o (128 : Int32) dX11_erase_26 (by decide) ?_
  refine v_icmp_ge o 98 dX11_erase_29 (by decide) (fun c4 => ?_) (fun c4 => ?_)
  · replace h := z_ip c4 h
    obtain rfl := z_some h
    refine v_sub [] rfl ?_
    exact hk
  · replace h := z_in c4 h
    refine v_sipush o (128 : Int32) dX11_erase_32 (by decide) ?_
    refine v_iload_n o dX11_erase_35 rfl 1 rfl ?_
    refine v_imul o dX11_erase_36 ?_
    refine v_iload_n o dX11_erase_37 rfl 3 rfl ?_
    refine v_iadd o dX11_erase_38 ?_
    refine v_istore o [(4, .int (((128 : Int32) * a1) + a3)), (0, .ref (z_w q a0)), (1, .int a1), (2, .int a2), (3, .int a3)] dX11_erase_39 (by decide) rfl ?_
    refine v_iload_n o dX11_erase_41 rfl 3 rfl ?_
    refine v_if_eq o 49 dX11_erase_42 (by decide) (fun c5 => ?_) (fun c5 => ?_)
    · replace h := z_ip c5 h
      refine v_aload_n o dX11_erase_49 rfl 1 rfl ?_
      refine gt_11_7 o hK0 ln_5_102 dX11_erase_50 ?_
      refine v_bipush o (8 : Int32) dX11_erase_53 (by decide) ?_
      refine v_iload_n o dX11_erase_55 rfl 4 rfl ?_
      refine v_iconst o (4 : Int32) dX11_erase_56 (by decide) ?_
      refine v_irem o dX11_erase_57 (by decide) ?_
      refine v_imul o dX11_erase_58 ?_
      refine v_ishr o dX11_erase_59 ?_
      refine v_sipush o (255 : Int32) dX11_erase_60 (by decide) ?_
      refine v_iand o dX11_erase_63 ?_
      refine v_sub [1, 2, 3, 4, 0] rfl ?_
      exact tj_X11_erase_L25_64 o hX hK0 h hk
    · replace h := z_in c5 h
      refine v_iconst o (0 : Int32) dX11_erase_45 (by decide) ?_
      refine v_goto o 64 dX11_erase_46 (by decide) ?_
      refine v_sub [1, 2, 3, 4, 0] rfl ?_
      exact tj_X11_erase_L25_64 o hX hK0 h hk
def f_X11_erase (G : z_G) (D : z_D) (a0 : Nat) (a1 : Int32) : Option (z_D) :=
  (if (z_I D 1103 a0) = (0 : Int32) then ((f_X11_hasPower G (z_sI D 1105 a0 ((z_I D 1105 a0) + (1 : Int32))) a0).bind (fun p3 => (((z_loop (fun v => c_X11_erase_25 G v.1 a0 a1 p3.1 v.2) 4000 (p3.2, (0 : Int32))).bind (fun e11 => (some e11)))))) else ((some D)))
set_option maxRecDepth 100000 in
set_option maxHeartbeats 4000000 in
theorem b_X11_erase {q : z_Q} {X : z_X} {G : z_G} {D : z_D} {a0 : Nat} {a1 : Int32}  {D1 : z_D} (o : z_O q X cX11_erase 6 "FlashTrustModel" "erase" none) (hX : x_R X = z_rm 1 0 0) (hK0 : z_K G a0 = 111) (h : f_X11_erase G D a0 a1 = some D1) : z_V q X 6 (z_F q X none G D1 0 0) 0 0 G D 0 [(0, .ref (z_w q a0)), (1, .int a1)] [] := by
  unfold f_X11_erase at h
  refine v_aload_n o dX11_erase_0 rfl 0 rfl ?_
  refine gt_11_3 o hK0 ln_5_98 dX11_erase_1 ?_
  refine v_if_eq o 8 dX11_erase_4 (by decide) (fun c1 => ?_) (fun c1 => ?_)
  · replace h := z_ip c1 h
    refine v_aload_n o dX11_erase_8 rfl 0 rfl ?_
    refine v_dup o dX11_erase_9 rfl ?_
    refine gt_11_5 o hK0 ln_5_100 dX11_erase_10 ?_
    refine v_iconst o (1 : Int32) dX11_erase_13 (by decide) ?_
    refine v_iadd o dX11_erase_14 ?_
    refine pt_11_5 o hK0 ln_5_100 dX11_erase_15 ?_
    refine v_aload_n o dX11_erase_18 rfl 0 rfl ?_
    obtain ⟨p3, he2, h⟩ := z_bind h
    refine v_callV o yw_X11_hasPower ln_6_125 wi_X11_hasPower ws_X11_hasPower hX (by decide) 11 rfl hK0 (As := []) rfl rfl (Nat.le_of_ble_eq_true rfl) (e_X11_hasPower hK0 he2) dX11_erase_19 ?_
    refine v_istore_n o [(2, .int p3.1), (0, .ref (z_w q a0)), (1, .int a1)] dX11_erase_22 rfl (by decide) rfl ?_
    refine v_iconst o (0 : Int32) dX11_erase_23 (by decide) ?_
    refine v_istore_n o [(3, .int (0 : Int32)), (2, .int p3.1), (0, .ref (z_w q a0)), (1, .int a1)] dX11_erase_24 rfl (by decide) rfl ?_
    refine v_sub [2, 3, 1, 0] rfl ?_
    obtain ⟨e11, he12, h⟩ := z_bind h
    refine z_loopV (P := p_X11_erase_25 q X _ G a0 a1 p3.1) (E := x_X11_erase_25 q X _ G a0 a1 p3.1) (fun v ρ hb hk => tc_X11_erase_25 (D := v.1) (a0 := a0) (a1 := a1) (a2 := p3.1) (a3 := v.2) o hX hK0 hb hk) 4000 _ e11 he12 ?_
    show z_V q X 6 _ _ _ G e11 98 [] []
    have hr := z_some h
    subst hr
    exact v_return o dX11_erase_98
  · replace h := z_in c1 h
    have hr := z_some h
    subst hr
    exact v_return o dX11_erase_7
theorem e_X11_erase {q : z_Q} {l : Launch} {G : z_G} {D : z_D} {a0 : Nat} {a1 : Int32}  {D1 : z_D} (hK0 : z_K G a0 = 111) (h : f_X11_erase G D a0 a1 = some D1) : z_E q l yX11_erase cX11_erase 6 none 1 0 0 [.ref (z_w q a0), .int a1] G D none G D1 :=
  z_E.of (by decide) (Nat.le_of_ble_eq_true rfl) (fun X hX _ o => b_X11_erase o hX hK0 h)
def f_X11_flash (G : z_G) (D : z_D) (a0 : Nat) (a1 : Int32) (a2 : Int32) : Option (Int32) :=
  (if a1 < (0 : Int32) then (((some (-1 : Int32)))) else ((if (25 : Int32) < a1 then (((some (-1 : Int32)))) else ((if a2 < (0 : Int32) then (((some (-1 : Int32)))) else ((if a2 ≤ (127 : Int32) then (z_gK G 1 (z_R G 1100 a0) (z_gA G 1 (z_R G 1100 a0) (((128 : Int32) * a1) + a2) ((some (z_U D (z_R G 1100 a0) ((((128 : Int32) * a1) + a2)).toNatClampNeg))))) else (((some (-1 : Int32)))))))))))
set_option maxRecDepth 100000 in
set_option maxHeartbeats 4000000 in
theorem b_X11_flash {q : z_Q} {X : z_X} {G : z_G} {D : z_D} {a0 : Nat} {a1 : Int32} {a2 : Int32} {r : Int32} (o : z_O q X cX11_flash 3 "FlashTrustModel" "flash" (some .int)) (hX : x_R X = z_rm 0 0 0) (hK0 : z_K G a0 = 111) (h : f_X11_flash G D a0 a1 a2 = some r) : z_V q X 3 (z_F q X (some (.int r)) G D 0 0) 0 0 G D 0 [(0, .ref (z_w q a0)), (1, .int a1), (2, .int a2)] [] := by
  unfold f_X11_flash at h
  refine v_iload_n o dX11_flash_0 rfl 1 rfl ?_
  refine v_if_lt o 20 dX11_flash_1 (by decide) (fun c1 => ?_) (fun c1 => ?_)
  · replace h := z_ip c1 h
    refine v_iconst o (-1 : Int32) dX11_flash_20 (by decide) ?_
    refine v_goto o 36 dX11_flash_21 (by decide) ?_
    have hr := z_some h
    subst hr
    exact v_ireturn o dX11_flash_36
  · replace h := z_in c1 h
    refine v_iload_n o dX11_flash_4 rfl 1 rfl ?_
    refine v_bipush o (25 : Int32) dX11_flash_5 (by decide) ?_
    refine v_icmp_gt o 20 dX11_flash_7 (by decide) (fun c2 => ?_) (fun c2 => ?_)
    · replace h := z_ip c2 h
      refine v_iconst o (-1 : Int32) dX11_flash_20 (by decide) ?_
      refine v_goto o 36 dX11_flash_21 (by decide) ?_
      have hr := z_some h
      subst hr
      exact v_ireturn o dX11_flash_36
    · replace h := z_in c2 h
      refine v_iload_n o dX11_flash_10 rfl 2 rfl ?_
      refine v_if_lt o 20 dX11_flash_11 (by decide) (fun c3 => ?_) (fun c3 => ?_)
      · replace h := z_ip c3 h
        refine v_iconst o (-1 : Int32) dX11_flash_20 (by decide) ?_
        refine v_goto o 36 dX11_flash_21 (by decide) ?_
        have hr := z_some h
        subst hr
        exact v_ireturn o dX11_flash_36
      · replace h := z_in c3 h
        refine v_iload_n o dX11_flash_14 rfl 2 rfl ?_
        refine v_bipush o (127 : Int32) dX11_flash_15 (by decide) ?_
        refine v_icmp_le o 24 dX11_flash_17 (by decide) (fun c4 => ?_) (fun c4 => ?_)
        · replace h := z_ip c4 h
          refine v_aload_n o dX11_flash_24 rfl 0 rfl ?_
          obtain ⟨n5, h⟩ := z_gK_of h
          refine gt_11_0 o hK0 ln_5_95 (by rw [n5]; decide) dX11_flash_25 ?_
          refine v_sipush o (128 : Int32) dX11_flash_28 (by decide) ?_
          refine v_iload_n o dX11_flash_31 rfl 1 rfl ?_
          refine v_imul o dX11_flash_32 ?_
          refine v_iload_n o dX11_flash_33 rfl 2 rfl ?_
          refine v_iadd o dX11_flash_34 ?_
          obtain ⟨n6, n7, h⟩ := z_gA_of h
          refine v_iald o n6 n7 dX11_flash_35 ?_
          have hr := z_some h
          subst hr
          exact v_ireturn o dX11_flash_36
        · replace h := z_in c4 h
          refine v_iconst o (-1 : Int32) dX11_flash_20 (by decide) ?_
          refine v_goto o 36 dX11_flash_21 (by decide) ?_
          have hr := z_some h
          subst hr
          exact v_ireturn o dX11_flash_36
theorem e_X11_flash {q : z_Q} {l : Launch} {G : z_G} {D : z_D} {a0 : Nat} {a1 : Int32} {a2 : Int32} {r : Int32} (hK0 : z_K G a0 = 111) (h : f_X11_flash G D a0 a1 a2 = some r) : z_E q l yX11_flash cX11_flash 3 (some .int) 0 0 0 [.ref (z_w q a0), .int a1, .int a2] G D (some (.int r)) G D :=
  z_E.of (by decide) (Nat.le_of_ble_eq_true rfl) (fun X hX _ o => b_X11_flash o hX hK0 h)
def p_X11_wide_5 (q : z_Q) (X : z_X) (Q : State → Prop) (G : z_G) (D : z_D) (a0 : Nat) (a1 : Int32) (a2 : Int32) : (Int32 × Int32) → Prop := (fun v => z_V q X 5 Q 0 0 G D 5 [(0, .ref (z_w q a0)), (1, .int a1), (2, .int a2), (3, .int v.1), (4, .int v.2)] [])
def x_X11_wide_5 (q : z_Q) (X : z_X) (Q : State → Prop) (G : z_G) (D : z_D) (a0 : Nat) (a1 : Int32) (a2 : Int32) : Int32 → Prop := (fun v => z_V q X 5 Q 0 0 G D 32 [(3, .int v)] [])
def k_X11_wide_5 (q : z_Q) (X : z_X) (Q : State → Prop) (G : z_G) (D : z_D) (a0 : Nat) (a1 : Int32) (a2 : Int32) : (Int32 × Int32) ⊕ Int32 → Prop := Sum.elim (p_X11_wide_5 q X Q G D a0 a1 a2) (x_X11_wide_5 q X Q G D a0 a1 a2)
def c_X11_wide_5 (G : z_G) (D : z_D) (a0 : Nat) (a1 : Int32) (a2 : Int32) (a3 : Int32) (a4 : Int32) : Option ((Int32 × Int32) ⊕ Int32) :=
  (if a2 ≤ a4 then (some (.inr a3)) else (z_gK G 1 (z_R G 1100 a0) (z_gA G 1 (z_R G 1100 a0) (a1 + a4) ((some (.inl (((a3 <<< ((8 : Int32) &&& 31)) ||| (z_U D (z_R G 1100 a0) ((a1 + a4)).toNatClampNeg)), (a4 + (1 : Int32)))))))))
set_option maxRecDepth 100000 in
set_option maxHeartbeats 4000000 in
theorem tc_X11_wide_5 {q : z_Q} {X : z_X} {G : z_G} {D : z_D} {Q : State → Prop} {a0 : Nat} {a1 : Int32} {a2 : Int32} {a3 : Int32} {a4 : Int32} (o : z_O q X cX11_wide 5 "FlashTrustModel" "wide" (some .int)) (hX : x_R X = z_rm 0 0 0) (hK0 : z_K G a0 = 111) {ρ : (Int32 × Int32) ⊕ Int32} (h : c_X11_wide_5 G D a0 a1 a2 a3 a4 = some ρ) (hk : k_X11_wide_5 q X Q G D a0 a1 a2 ρ) : z_V q X 5 Q 0 0 G D 5 [(0, .ref (z_w q a0)), (1, .int a1), (2, .int a2), (3, .int a3), (4, .int a4)] [] := by
  unfold c_X11_wide_5 at h
  refine v_iload o dX11_wide_5 4 rfl ?_
  refine v_iload_n o dX11_wide_7 rfl 2 rfl ?_
  refine v_icmp_ge o 32 dX11_wide_8 (by decide) (fun c1 => ?_) (fun c1 => ?_)
  · replace h := z_ip c1 h
    obtain rfl := z_some h
    refine v_sub [3] rfl ?_
    exact hk
  · replace h := z_in c1 h
    refine v_iload_n o dX11_wide_11 rfl 3 rfl ?_
    refine v_bipush o (8 : Int32) dX11_wide_12 (by decide) ?_
    refine v_ishl o dX11_wide_14 ?_
    refine v_aload_n o dX11_wide_15 rfl 0 rfl ?_
    obtain ⟨n2, h⟩ := z_gK_of h
    refine gt_11_0 o hK0 ln_5_95 (by rw [n2]; decide) dX11_wide_16 ?_
    refine v_iload_n o dX11_wide_19 rfl 1 rfl ?_
    refine v_iload o dX11_wide_20 4 rfl ?_
    refine v_iadd o dX11_wide_22 ?_
    obtain ⟨n3, n4, h⟩ := z_gA_of h
    refine v_iald o n3 n4 dX11_wide_23 ?_
    refine v_ior o dX11_wide_24 ?_
    refine v_istore_n o [(3, .int ((a3 <<< ((8 : Int32) &&& 31)) ||| (z_U D (z_R G 1100 a0) ((a1 + a4)).toNatClampNeg))), (0, .ref (z_w q a0)), (1, .int a1), (2, .int a2), (4, .int a4)] dX11_wide_25 rfl (by decide) rfl ?_
    refine v_iinc o (a4 + (1 : Int32)) [(4, .int (a4 + (1 : Int32))), (3, .int ((a3 <<< ((8 : Int32) &&& 31)) ||| (z_U D (z_R G 1100 a0) ((a1 + a4)).toNatClampNeg))), (0, .ref (z_w q a0)), (1, .int a1), (2, .int a2)] dX11_wide_26 4 rfl rfl (by decide) rfl ?_
    refine v_goto o 5 dX11_wide_29 (by decide) ?_
    obtain rfl := z_some h
    refine v_sub [2, 3, 4, 1, 0] rfl ?_
    exact hk
def f_X11_wide (G : z_G) (D : z_D) (a0 : Nat) (a1 : Int32) (a2 : Int32) : Option (Int32) :=
  ((z_loop (fun v => c_X11_wide_5 G D a0 a1 a2 v.1 v.2) 4000 ((0 : Int32), (0 : Int32))).bind (fun e5 => (some e5)))
set_option maxRecDepth 100000 in
set_option maxHeartbeats 4000000 in
theorem b_X11_wide {q : z_Q} {X : z_X} {G : z_G} {D : z_D} {a0 : Nat} {a1 : Int32} {a2 : Int32} {r : Int32} (o : z_O q X cX11_wide 5 "FlashTrustModel" "wide" (some .int)) (hX : x_R X = z_rm 0 0 0) (hK0 : z_K G a0 = 111) (h : f_X11_wide G D a0 a1 a2 = some r) : z_V q X 5 (z_F q X (some (.int r)) G D 0 0) 0 0 G D 0 [(0, .ref (z_w q a0)), (1, .int a1), (2, .int a2)] [] := by
  unfold f_X11_wide at h
  refine v_iconst o (0 : Int32) dX11_wide_0 (by decide) ?_
  refine v_istore_n o [(3, .int (0 : Int32)), (0, .ref (z_w q a0)), (1, .int a1), (2, .int a2)] dX11_wide_1 rfl (by decide) rfl ?_
  refine v_iconst o (0 : Int32) dX11_wide_2 (by decide) ?_
  refine v_istore o [(4, .int (0 : Int32)), (3, .int (0 : Int32)), (0, .ref (z_w q a0)), (1, .int a1), (2, .int a2)] dX11_wide_3 (by decide) rfl ?_
  refine v_sub [2, 3, 4, 1, 0] rfl ?_
  obtain ⟨e5, he6, h⟩ := z_bind h
  refine z_loopV (P := p_X11_wide_5 q X _ G D a0 a1 a2) (E := x_X11_wide_5 q X _ G D a0 a1 a2) (fun v ρ hb hk => tc_X11_wide_5 (D := D) (a0 := a0) (a1 := a1) (a2 := a2) (a3 := v.1) (a4 := v.2) o hX hK0 hb hk) 4000 _ e5 he6 ?_
  show z_V q X 5 _ _ _ G D 32 [(3, .int e5)] []
  refine v_iload_n o dX11_wide_32 rfl 0 rfl ?_
  have hr := z_some h
  subst hr
  exact v_ireturn o dX11_wide_33
theorem e_X11_wide {q : z_Q} {l : Launch} {G : z_G} {D : z_D} {a0 : Nat} {a1 : Int32} {a2 : Int32} {r : Int32} (hK0 : z_K G a0 = 111) (h : f_X11_wide G D a0 a1 a2 = some r) : z_E q l yX11_wide cX11_wide 5 (some .int) 0 0 0 [.ref (z_w q a0), .int a1, .int a2] G D (some (.int r)) G D :=
  z_E.of (by decide) (Nat.le_of_ble_eq_true rfl) (fun X hX _ o => b_X11_wide o hX hK0 h)
def f_X11_checkNow (G : z_G) (D : z_D) (a0 : Nat) : Option (Int32) :=
  (if ((((z_J D 1110 a0)).toUInt64 >>> (((32 : Int32)).toInt64.toUInt64 &&& Int64.toUInt64 63)).toInt64).toInt32 = (-1 : Int32) then (((some (-2 : Int32)))) else ((some (((((z_J D 1110 a0)).toUInt64 >>> (((32 : Int32)).toInt64.toUInt64 &&& Int64.toUInt64 63)).toInt64).toInt32))))
set_option maxRecDepth 100000 in
set_option maxHeartbeats 4000000 in
theorem b_X11_checkNow {q : z_Q} {X : z_X} {G : z_G} {D : z_D} {a0 : Nat} {r : Int32} (o : z_O q X cX11_checkNow 2 "FlashTrustModel" "checkNow" (some .int)) (hX : x_R X = z_rm 0 0 0) (hK0 : z_K G a0 = 111) (h : f_X11_checkNow G D a0 = some r) : z_V q X 2 (z_F q X (some (.int r)) G D 0 0) 0 0 G D 0 [(0, .ref (z_w q a0))] [] := by
  unfold f_X11_checkNow at h
  refine v_aload_n o dX11_checkNow_0 rfl 0 rfl ?_
  refine gt_11_10 o hK0 ln_5_105 dX11_checkNow_1 ?_
  refine v_bipush o (32 : Int32) dX11_checkNow_4 (by decide) ?_
  refine v_lushr o dX11_checkNow_6 ?_
  refine v_l2i o dX11_checkNow_7 ?_
  refine v_istore_n o [(1, .int ((((z_J D 1110 a0)).toUInt64 >>> (((32 : Int32)).toInt64.toUInt64 &&& Int64.toUInt64 63)).toInt64).toInt32), (0, .ref (z_w q a0))] dX11_checkNow_8 rfl (by decide) rfl ?_
  refine v_iload_n o dX11_checkNow_9 rfl 0 rfl ?_
  refine v_iconst o (-1 : Int32) dX11_checkNow_10 (by decide) ?_
  refine v_icmp_ne o 19 dX11_checkNow_11 (by decide) (fun c1 => ?_) (fun c1 => ?_)
  · replace h := z_in c1 h
    refine v_iload_n o dX11_checkNow_19 rfl 0 rfl ?_
    have hr := z_some h
    subst hr
    exact v_ireturn o dX11_checkNow_20
  · replace h := z_ip c1 h
    refine v_bipush o (-2 : Int32) dX11_checkNow_14 (by decide) ?_
    refine v_goto o 20 dX11_checkNow_16 (by decide) ?_
    have hr := z_some h
    subst hr
    exact v_ireturn o dX11_checkNow_20
theorem e_X11_checkNow {q : z_Q} {l : Launch} {G : z_G} {D : z_D} {a0 : Nat} {r : Int32} (hK0 : z_K G a0 = 111) (h : f_X11_checkNow G D a0 = some r) : z_E q l yX11_checkNow cX11_checkNow 2 (some .int) 0 0 0 [.ref (z_w q a0)] G D (some (.int r)) G D :=
  z_E.of (by decide) (Nat.le_of_ble_eq_true rfl) (fun X hX _ o => b_X11_checkNow o hX hK0 h)
def p_X11_checkOf_6 (q : z_Q) (X : z_X) (Q : State → Prop) (G : z_G) (a0 : Nat) (a1 : Int32) (a2 : Int32) : (z_D × Int32) → Prop := (fun v => z_V q X 4 Q 0 0 G v.1 6 [(0, .ref (z_w q a0)), (1, .int a1), (2, .int a2), (3, .int v.2)] [])
def x_X11_checkOf_6 (q : z_Q) (X : z_X) (Q : State → Prop) (G : z_G) (a0 : Nat) (a1 : Int32) (a2 : Int32) : z_D → Prop := (fun v => z_V q X 4 Q 0 0 G v 29 [(0, .ref (z_w q a0))] [])
def k_X11_checkOf_6 (q : z_Q) (X : z_X) (Q : State → Prop) (G : z_G) (a0 : Nat) (a1 : Int32) (a2 : Int32) : (z_D × Int32) ⊕ z_D → Prop := Sum.elim (p_X11_checkOf_6 q X Q G a0 a1 a2) (x_X11_checkOf_6 q X Q G a0 a1 a2)
def c_X11_checkOf_6 (G : z_G) (D : z_D) (a0 : Nat) (a1 : Int32) (a2 : Int32) (a3 : Int32) : Option ((z_D × Int32) ⊕ z_D) :=
  (if a2 ≤ a3 then (some (.inr D)) else (z_gK G 1 (z_R G 1100 a0) (z_gA G 1 (z_R G 1100 a0) (a1 + a3) ((f_X11_digestByte G D a0 (z_U D (z_R G 1100 a0) ((a1 + a3)).toNatClampNeg)).bind (fun D8 => ((some (.inl (D8, (a3 + (1 : Int32)))))))))))
set_option maxRecDepth 100000 in
set_option maxHeartbeats 4000000 in
theorem tc_X11_checkOf_6 {q : z_Q} {X : z_X} {G : z_G} {D : z_D} {Q : State → Prop} {a0 : Nat} {a1 : Int32} {a2 : Int32} {a3 : Int32} (o : z_O q X cX11_checkOf 4 "FlashTrustModel" "checkOf" (some .int)) (hX : x_R X = z_rm 1 0 0) (hK0 : z_K G a0 = 111) {ρ : (z_D × Int32) ⊕ z_D} (h : c_X11_checkOf_6 G D a0 a1 a2 a3 = some ρ) (hk : k_X11_checkOf_6 q X Q G a0 a1 a2 ρ) : z_V q X 4 Q 0 0 G D 6 [(0, .ref (z_w q a0)), (1, .int a1), (2, .int a2), (3, .int a3)] [] := by
  unfold c_X11_checkOf_6 at h
  refine v_iload_n o dX11_checkOf_6 rfl 3 rfl ?_
  refine v_iload_n o dX11_checkOf_7 rfl 2 rfl ?_
  refine v_icmp_ge o 29 dX11_checkOf_8 (by decide) (fun c3 => ?_) (fun c3 => ?_)
  · replace h := z_ip c3 h
    obtain rfl := z_some h
    refine v_sub [0] rfl ?_
    exact hk
  · replace h := z_in c3 h
    refine v_aload_n o dX11_checkOf_11 rfl 0 rfl ?_
    refine v_aload_n o dX11_checkOf_12 rfl 0 rfl ?_
    obtain ⟨n4, h⟩ := z_gK_of h
    refine gt_11_0 o hK0 ln_5_95 (by rw [n4]; decide) dX11_checkOf_13 ?_
    refine v_iload_n o dX11_checkOf_16 rfl 1 rfl ?_
    refine v_iload_n o dX11_checkOf_17 rfl 3 rfl ?_
    refine v_iadd o dX11_checkOf_18 ?_
    obtain ⟨n5, n6, h⟩ := z_gA_of h
    refine v_iald o n5 n6 dX11_checkOf_19 ?_
    obtain ⟨D8, he7, h⟩ := z_bind h
    refine v_callV o yw_X11_digestByte ln_5_57 wi_X11_digestByte ws_X11_digestByte hX (by decide) 11 rfl hK0 (As := [.int (z_U D (z_R G 1100 a0) ((a1 + a3)).toNatClampNeg)]) rfl rfl (Nat.le_of_ble_eq_true rfl) (e_X11_digestByte hK0 he7) dX11_checkOf_20 ?_
    refine v_iinc o (a3 + (1 : Int32)) [(3, .int (a3 + (1 : Int32))), (0, .ref (z_w q a0)), (1, .int a1), (2, .int a2)] dX11_checkOf_23 3 rfl rfl (by decide) rfl ?_
    refine v_goto o 6 dX11_checkOf_26 (by decide) ?_
    obtain rfl := z_some h
    refine v_sub [1, 2, 3, 0] rfl ?_
    exact hk
def f_X11_checkOf (G : z_G) (D : z_D) (a0 : Nat) (a1 : Int32) (a2 : Int32) : Option (Int32 × z_D) :=
  (f_X11_digestBegin G D a0).bind (fun D2 => (((z_loop (fun v => c_X11_checkOf_6 G v.1 a0 a1 a2 v.2) 4000 (D2, (0 : Int32))).bind (fun e9 => (f_X11_checkNow G e9 a0).bind (fun r12 => ((some (r12, e9))))))))
set_option maxRecDepth 100000 in
set_option maxHeartbeats 4000000 in
theorem b_X11_checkOf {q : z_Q} {X : z_X} {G : z_G} {D : z_D} {a0 : Nat} {a1 : Int32} {a2 : Int32} {r : Int32} {D1 : z_D} (o : z_O q X cX11_checkOf 4 "FlashTrustModel" "checkOf" (some .int)) (hX : x_R X = z_rm 1 0 0) (hK0 : z_K G a0 = 111) (h : f_X11_checkOf G D a0 a1 a2 = some (r, D1)) : z_V q X 4 (z_F q X (some (.int r)) G D1 0 0) 0 0 G D 0 [(0, .ref (z_w q a0)), (1, .int a1), (2, .int a2)] [] := by
  unfold f_X11_checkOf at h
  refine v_aload_n o dX11_checkOf_0 rfl 0 rfl ?_
  obtain ⟨D2, he1, h⟩ := z_bind h
  refine v_callV o yw_X11_digestBegin ln_5_52 wi_X11_digestBegin ws_X11_digestBegin hX (by decide) 11 rfl hK0 (As := []) rfl rfl (Nat.le_of_ble_eq_true rfl) (e_X11_digestBegin hK0 he1) dX11_checkOf_1 ?_
  refine v_iconst o (0 : Int32) dX11_checkOf_4 (by decide) ?_
  refine v_istore_n o [(3, .int (0 : Int32)), (0, .ref (z_w q a0)), (1, .int a1), (2, .int a2)] dX11_checkOf_5 rfl (by decide) rfl ?_
  refine v_sub [1, 2, 3, 0] rfl ?_
  obtain ⟨e9, he10, h⟩ := z_bind h
  refine z_loopV (P := p_X11_checkOf_6 q X _ G a0 a1 a2) (E := x_X11_checkOf_6 q X _ G a0 a1 a2) (fun v ρ hb hk => tc_X11_checkOf_6 (D := v.1) (a0 := a0) (a1 := a1) (a2 := a2) (a3 := v.2) o hX hK0 hb hk) 4000 _ e9 he10 ?_
  show z_V q X 4 _ _ _ G e9 29 [(0, .ref (z_w q a0))] []
  refine v_aload_n o dX11_checkOf_29 rfl 0 rfl ?_
  obtain ⟨r12, he11, h⟩ := z_bind h
  refine v_callV o yw_X11_checkNow ln_5_79 wi_X11_checkNow ws_X11_checkNow hX (by decide) 11 rfl hK0 (As := []) rfl rfl (Nat.le_of_ble_eq_true rfl) (e_X11_checkNow hK0 he11) dX11_checkOf_30 ?_
  obtain ⟨hr, hs⟩ := Prod.mk.inj (z_some h)
  subst hr
  subst hs
  exact v_ireturn o dX11_checkOf_33
theorem e_X11_checkOf {q : z_Q} {l : Launch} {G : z_G} {D : z_D} {a0 : Nat} {a1 : Int32} {a2 : Int32} {r : Int32} {D1 : z_D} (hK0 : z_K G a0 = 111) (h : f_X11_checkOf G D a0 a1 a2 = some (r, D1)) : z_E q l yX11_checkOf cX11_checkOf 4 (some .int) 1 0 0 [.ref (z_w q a0), .int a1, .int a2] G D (some (.int r)) G D1 :=
  z_E.of (by decide) (Nat.le_of_ble_eq_true rfl) (fun X hX _ o => b_X11_checkOf o hX hK0 h)
def p_X11_six_5 (q : z_Q) (X : z_X) (Q : State → Prop) (G : z_G) (D : z_D) (a0 : Nat) (a1 : Int32) : (Int64 × Int32) → Prop := (fun v => z_V q X 5 Q 0 0 G D 5 [(0, .ref (z_w q a0)), (1, .int a1), (2, .long v.1), (4, .int v.2)] [])
def x_X11_six_5 (q : z_Q) (X : z_X) (Q : State → Prop) (G : z_G) (D : z_D) (a0 : Nat) (a1 : Int32) : Int64 → Prop := (fun v => z_V q X 5 Q 0 0 G D 34 [(2, .long v)] [])
def k_X11_six_5 (q : z_Q) (X : z_X) (Q : State → Prop) (G : z_G) (D : z_D) (a0 : Nat) (a1 : Int32) : (Int64 × Int32) ⊕ Int64 → Prop := Sum.elim (p_X11_six_5 q X Q G D a0 a1) (x_X11_six_5 q X Q G D a0 a1)
def c_X11_six_5 (G : z_G) (D : z_D) (a0 : Nat) (a1 : Int32) (a2 : Int64) (a4 : Int32) : Option ((Int64 × Int32) ⊕ Int64) :=
  (if (6 : Int32) ≤ a4 then (some (.inr a2)) else (z_gK G 1 (z_R G 1100 a0) (z_gA G 1 (z_R G 1100 a0) (a1 + a4) ((some (.inl (((a2 <<< (((8 : Int32)).toInt64 &&& 63)) ||| ((z_U D (z_R G 1100 a0) ((a1 + a4)).toNatClampNeg)).toInt64), (a4 + (1 : Int32)))))))))
set_option maxRecDepth 100000 in
set_option maxHeartbeats 4000000 in
theorem tc_X11_six_5 {q : z_Q} {X : z_X} {G : z_G} {D : z_D} {Q : State → Prop} {a0 : Nat} {a1 : Int32} {a2 : Int64} {a4 : Int32} (o : z_O q X cX11_six 5 "FlashTrustModel" "six" (some .long)) (hX : x_R X = z_rm 0 0 0) (hK0 : z_K G a0 = 111) {ρ : (Int64 × Int32) ⊕ Int64} (h : c_X11_six_5 G D a0 a1 a2 a4 = some ρ) (hk : k_X11_six_5 q X Q G D a0 a1 ρ) : z_V q X 5 Q 0 0 G D 5 [(0, .ref (z_w q a0)), (1, .int a1), (2, .long a2), (4, .int a4)] [] := by
  unfold c_X11_six_5 at h
  refine v_iload o dX11_six_5 3 rfl ?_
  refine v_bipush o (6 : Int32) dX11_six_7 (by decide) ?_
  refine v_icmp_ge o 34 dX11_six_9 (by decide) (fun c1 => ?_) (fun c1 => ?_)
  · replace h := z_ip c1 h
    obtain rfl := z_some h
    refine v_sub [2] rfl ?_
    exact hk
  · replace h := z_in c1 h
    refine v_lload_n o dX11_six_12 rfl 2 rfl ?_
    refine v_bipush o (8 : Int32) dX11_six_13 (by decide) ?_
    refine v_lshl o dX11_six_15 ?_
    refine v_aload_n o dX11_six_16 rfl 0 rfl ?_
    obtain ⟨n2, h⟩ := z_gK_of h
    refine gt_11_0 o hK0 ln_5_95 (by rw [n2]; decide) dX11_six_17 ?_
    refine v_iload_n o dX11_six_20 rfl 1 rfl ?_
    refine v_iload o dX11_six_21 3 rfl ?_
    refine v_iadd o dX11_six_23 ?_
    obtain ⟨n3, n4, h⟩ := z_gA_of h
    refine v_iald o n3 n4 dX11_six_24 ?_
    refine v_i2l o dX11_six_25 ?_
    refine v_lor o dX11_six_26 ?_
    refine v_lstore_n o [(2, .long ((a2 <<< (((8 : Int32)).toInt64 &&& 63)) ||| ((z_U D (z_R G 1100 a0) ((a1 + a4)).toNatClampNeg)).toInt64)), (0, .ref (z_w q a0)), (1, .int a1), (4, .int a4)] dX11_six_27 rfl (by decide) rfl ?_
    refine v_iinc o (a4 + (1 : Int32)) [(4, .int (a4 + (1 : Int32))), (2, .long ((a2 <<< (((8 : Int32)).toInt64 &&& 63)) ||| ((z_U D (z_R G 1100 a0) ((a1 + a4)).toNatClampNeg)).toInt64)), (0, .ref (z_w q a0)), (1, .int a1)] dX11_six_28 3 rfl rfl (by decide) rfl ?_
    refine v_goto o 5 dX11_six_31 (by decide) ?_
    obtain rfl := z_some h
    refine v_sub [2, 3, 1, 0] rfl ?_
    exact hk
def f_X11_six (G : z_G) (D : z_D) (a0 : Nat) (a1 : Int32) : Option (Int64) :=
  ((z_loop (fun v => c_X11_six_5 G D a0 a1 v.1 v.2) 4000 ((0 : Int64), (0 : Int32))).bind (fun e5 => (some e5)))
set_option maxRecDepth 100000 in
set_option maxHeartbeats 4000000 in
theorem b_X11_six {q : z_Q} {X : z_X} {G : z_G} {D : z_D} {a0 : Nat} {a1 : Int32} {r : Int64} (o : z_O q X cX11_six 5 "FlashTrustModel" "six" (some .long)) (hX : x_R X = z_rm 0 0 0) (hK0 : z_K G a0 = 111) (h : f_X11_six G D a0 a1 = some r) : z_V q X 5 (z_F q X (some (.long r)) G D 0 0) 0 0 G D 0 [(0, .ref (z_w q a0)), (1, .int a1)] [] := by
  unfold f_X11_six at h
  refine v_lconst o (0 : Int64) dX11_six_0 (by decide) ?_
  refine v_lstore_n o [(2, .long (0 : Int64)), (0, .ref (z_w q a0)), (1, .int a1)] dX11_six_1 rfl (by decide) rfl ?_
  refine v_iconst o (0 : Int32) dX11_six_2 (by decide) ?_
  refine v_istore o [(4, .int (0 : Int32)), (2, .long (0 : Int64)), (0, .ref (z_w q a0)), (1, .int a1)] dX11_six_3 (by decide) rfl ?_
  refine v_sub [2, 3, 1, 0] rfl ?_
  obtain ⟨e5, he6, h⟩ := z_bind h
  refine z_loopV (P := p_X11_six_5 q X _ G D a0 a1) (E := x_X11_six_5 q X _ G D a0 a1) (fun v ρ hb hk => tc_X11_six_5 (D := D) (a0 := a0) (a1 := a1) (a2 := v.1) (a4 := v.2) o hX hK0 hb hk) 4000 _ e5 he6 ?_
  show z_V q X 5 _ _ _ G D 34 [(2, .long e5)] []
  refine v_lload_n o dX11_six_34 rfl 0 rfl ?_
  have hr := z_some h
  subst hr
  exact v_lreturn o dX11_six_35
theorem e_X11_six {q : z_Q} {l : Launch} {G : z_G} {D : z_D} {a0 : Nat} {a1 : Int32} {r : Int64} (hK0 : z_K G a0 = 111) (h : f_X11_six G D a0 a1 = some r) : z_E q l yX11_six cX11_six 5 (some .long) 0 0 0 [.ref (z_w q a0), .int a1] G D (some (.long r)) G D :=
  z_E.of (by decide) (Nat.le_of_ble_eq_true rfl) (fun X hX _ o => b_X11_six o hX hK0 h)
def j_X11_isState_137 (G : z_G) (D : z_D) (a0 : Nat) (a1 : Int32) (s0 : Int32) : Option (Int32 × z_D) :=
  (if s0 = (0 : Int32) then ((some ((0 : Int32), D))) else ((f_X11_checkOf G D a0 a1 (28 : Int32)).bind (fun p14 => ((f_X11_wide G p14.2 a0 (a1 + (28 : Int32)) (4 : Int32)).bind (fun r16 => ((if p14.1 = r16 then (((some ((1 : Int32), p14.2)))) else ((some ((0 : Int32), p14.2))))))))))
set_option maxRecDepth 100000 in
set_option maxHeartbeats 4000000 in
theorem tj_X11_isState_137 {q : z_Q} {X : z_X} {G : z_G} {D : z_D} {a0 : Nat} {a1 : Int32} {s0 : Int32} {r : Int32} {D1 : z_D} (o : z_O q X cX11_isState 6 "FlashTrustModel" "isState" (some .boolean)) (hX : x_R X = z_rm 2 0 0) (hK0 : z_K G a0 = 111) (h : j_X11_isState_137 G D a0 a1 s0 = some (r, D1)) : z_V q X 6 (z_F q X (some (.int r)) G D1 0 0) 0 0 G D 137 [(0, .ref (z_w q a0)), (1, .int a1)] [.int s0] := by
  unfold j_X11_isState_137 at h
  refine v_istore o [(5, .int s0), (0, .ref (z_w q a0)), (1, .int a1)] dX11_isState_137 (by decide) rfl ?_
  refine v_iload o dX11_isState_139 0 rfl ?_
  refine v_if_eq o 167 dX11_isState_141 (by decide) (fun c12 => ?_) (fun c12 => ?_)
  · replace h := z_ip c12 h
    refine v_iconst o (0 : Int32) dX11_isState_167 (by decide) ?_
    obtain ⟨hr, hs⟩ := Prod.mk.inj (z_some h)
    subst hr
    subst hs
    exact v_zreturn o (by decide) dX11_isState_168
  · replace h := z_in c12 h
    refine v_aload_n o dX11_isState_144 rfl 1 rfl ?_
    refine v_iload_n o dX11_isState_145 rfl 2 rfl ?_
    refine v_bipush o (28 : Int32) dX11_isState_146 (by decide) ?_
    obtain ⟨p14, he13, h⟩ := z_bind h
    refine v_callV o yw_X11_checkOf ln_5_75 wi_X11_checkOf ws_X11_checkOf hX (by decide) 11 rfl hK0 (As := [.int a1, .int (28 : Int32)]) rfl rfl (Nat.le_of_ble_eq_true rfl) (e_X11_checkOf hK0 he13) dX11_isState_148 ?_
    refine v_aload_n o dX11_isState_151 rfl 1 rfl ?_
    refine v_iload_n o dX11_isState_152 rfl 2 rfl ?_
    refine v_bipush o (28 : Int32) dX11_isState_153 (by decide) ?_
    refine v_iadd o dX11_isState_155 ?_
    refine v_iconst o (4 : Int32) dX11_isState_156 (by decide) ?_
    obtain ⟨r16, he15, h⟩ := z_bind h
    refine v_callV o yw_X11_wide ln_5_71 wi_X11_wide ws_X11_wide hX (by decide) 11 rfl hK0 (As := [.int (a1 + (28 : Int32)), .int (4 : Int32)]) rfl rfl (Nat.le_of_ble_eq_true rfl) (e_X11_wide hK0 he15) dX11_isState_157 ?_
    refine v_icmp_ne o 167 dX11_isState_160 (by decide) (fun c17 => ?_) (fun c17 => ?_)
    · replace h := z_in c17 h
      refine v_iconst o (0 : Int32) dX11_isState_167 (by decide) ?_
      obtain ⟨hr, hs⟩ := Prod.mk.inj (z_some h)
      subst hr
      subst hs
      exact v_zreturn o (by decide) dX11_isState_168
    · replace h := z_ip c17 h
      refine v_iconst o (1 : Int32) dX11_isState_163 (by decide) ?_
      refine v_goto o 168 dX11_isState_164 (by decide) ?_
      obtain ⟨hr, hs⟩ := Prod.mk.inj (z_some h)
      subst hr
      subst hs
      exact v_zreturn o (by decide) dX11_isState_168
def j_X11_isState_136 (G : z_G) (D : z_D) (a0 : Nat) (a1 : Int32)  : Option (Int32 × z_D) :=
  (j_X11_isState_137 G D  a0 a1 (0 : Int32))
set_option maxRecDepth 100000 in
set_option maxHeartbeats 4000000 in
theorem tj_X11_isState_136 {q : z_Q} {X : z_X} {G : z_G} {D : z_D} {a0 : Nat} {a1 : Int32}  {r : Int32} {D1 : z_D} (o : z_O q X cX11_isState 6 "FlashTrustModel" "isState" (some .boolean)) (hX : x_R X = z_rm 2 0 0) (hK0 : z_K G a0 = 111) (h : j_X11_isState_136 G D a0 a1  = some (r, D1)) : z_V q X 6 (z_F q X (some (.int r)) G D1 0 0) 0 0 G D 136 [(0, .ref (z_w q a0)), (1, .int a1)] [] := by
  unfold j_X11_isState_136 at h
  refine v_iconst o (0 : Int32) dX11_isState_136 (by decide) ?_
  exact tj_X11_isState_137 o hX hK0 h
def j_X11_isState_132 (G : z_G) (D : z_D) (a0 : Nat) (a1 : Int32)  : Option (Int32 × z_D) :=
  (j_X11_isState_137 G D  a0 a1 (1 : Int32))
set_option maxRecDepth 100000 in
set_option maxHeartbeats 4000000 in
theorem tj_X11_isState_132 {q : z_Q} {X : z_X} {G : z_G} {D : z_D} {a0 : Nat} {a1 : Int32}  {r : Int32} {D1 : z_D} (o : z_O q X cX11_isState 6 "FlashTrustModel" "isState" (some .boolean)) (hX : x_R X = z_rm 2 0 0) (hK0 : z_K G a0 = 111) (h : j_X11_isState_132 G D a0 a1  = some (r, D1)) : z_V q X 6 (z_F q X (some (.int r)) G D1 0 0) 0 0 G D 132 [(0, .ref (z_w q a0)), (1, .int a1)] [] := by
  unfold j_X11_isState_132 at h
  refine v_iconst o (1 : Int32) dX11_isState_132 (by decide) ?_
  refine v_goto o 137 dX11_isState_133 (by decide) ?_
  exact tj_X11_isState_137 o hX hK0 h
def j_X11_isState_88 (G : z_G) (D : z_D) (a0 : Nat) (a1 : Int32) (a3 : Int32) (a4 : Int32) (s0 : Int32) : Option (Int32 × z_D) :=
  (if s0 = (0 : Int32) then (j_X11_isState_136 G D  a0 a1) else ((if a4 = (0 : Int32) then ((if a3 = (0 : Int32) then ((j_X11_isState_132 G D  a0 a1)) else (j_X11_isState_136 G D  a0 a1))) else ((f_X11_wide G D a0 (a1 + (16 : Int32)) (2 : Int32)).bind (fun r20 => ((if r20 < (1 : Int32) then (j_X11_isState_136 G D  a0 a1) else ((if a3 < (1 : Int32) then (j_X11_isState_136 G D  a0 a1) else ((if (1024 : Int32) < a3 then (j_X11_isState_136 G D  a0 a1) else (j_X11_isState_132 G D  a0 a1))))))))))))
set_option maxRecDepth 100000 in
set_option maxHeartbeats 4000000 in
theorem tj_X11_isState_88 {q : z_Q} {X : z_X} {G : z_G} {D : z_D} {a0 : Nat} {a1 : Int32} {a3 : Int32} {a4 : Int32} {s0 : Int32} {r : Int32} {D1 : z_D} (o : z_O q X cX11_isState 6 "FlashTrustModel" "isState" (some .boolean)) (hX : x_R X = z_rm 2 0 0) (hK0 : z_K G a0 = 111) (h : j_X11_isState_88 G D a0 a1 a3 a4 s0 = some (r, D1)) : z_V q X 6 (z_F q X (some (.int r)) G D1 0 0) 0 0 G D 88 [(0, .ref (z_w q a0)), (1, .int a1), (3, .int a3), (4, .int a4)] [.int s0] := by
  unfold j_X11_isState_88 at h
  refine v_istore o [(5, .int s0), (0, .ref (z_w q a0)), (1, .int a1), (3, .int a3), (4, .int a4)] dX11_isState_88 (by decide) rfl ?_
  refine v_iload o dX11_isState_90 0 rfl ?_
  refine v_if_eq o 136 dX11_isState_92 (by decide) (fun c11 => ?_) (fun c11 => ?_)
  · replace h := z_ip c11 h
    refine v_sub [1, 2] rfl ?_
    exact tj_X11_isState_136 o hX hK0 h
  · replace h := z_in c11 h
    refine v_iload o dX11_isState_95 4 rfl ?_
    refine v_if_ne o 107 dX11_isState_97 (by decide) (fun c18 => ?_) (fun c18 => ?_)
    · replace h := z_in c18 h
      refine v_aload_n o dX11_isState_107 rfl 1 rfl ?_
      refine v_iload_n o dX11_isState_108 rfl 2 rfl ?_
      refine v_bipush o (16 : Int32) dX11_isState_109 (by decide) ?_
      refine v_iadd o dX11_isState_111 ?_
      refine v_iconst o (2 : Int32) dX11_isState_112 (by decide) ?_
      obtain ⟨r20, he19, h⟩ := z_bind h
      refine v_callV o yw_X11_wide ln_5_71 wi_X11_wide ws_X11_wide hX (by decide) 11 rfl hK0 (As := [.int (a1 + (16 : Int32)), .int (2 : Int32)]) rfl rfl (Nat.le_of_ble_eq_true rfl) (e_X11_wide hK0 he19) dX11_isState_113 ?_
      refine v_iconst o (1 : Int32) dX11_isState_116 (by decide) ?_
      refine v_icmp_lt o 136 dX11_isState_117 (by decide) (fun c21 => ?_) (fun c21 => ?_)
      · replace h := z_ip c21 h
        refine v_sub [1, 2] rfl ?_
        exact tj_X11_isState_136 o hX hK0 h
      · replace h := z_in c21 h
        refine v_iload_n o dX11_isState_120 rfl 3 rfl ?_
        refine v_iconst o (1 : Int32) dX11_isState_121 (by decide) ?_
        refine v_icmp_lt o 136 dX11_isState_122 (by decide) (fun c22 => ?_) (fun c22 => ?_)
        · replace h := z_ip c22 h
          refine v_sub [1, 2] rfl ?_
          exact tj_X11_isState_136 o hX hK0 h
        · replace h := z_in c22 h
          refine v_iload_n o dX11_isState_125 rfl 3 rfl ?_
          refine v_sipush o (1024 : Int32) dX11_isState_126 (by decide) ?_
          refine v_icmp_gt o 136 dX11_isState_129 (by decide) (fun c23 => ?_) (fun c23 => ?_)
          · replace h := z_ip c23 h
            refine v_sub [1, 2] rfl ?_
            exact tj_X11_isState_136 o hX hK0 h
          · replace h := z_in c23 h
            refine v_sub [1, 2] rfl ?_
            exact tj_X11_isState_132 o hX hK0 h
    · replace h := z_ip c18 h
      refine v_iload_n o dX11_isState_100 rfl 3 rfl ?_
      refine v_if_ne o 136 dX11_isState_101 (by decide) (fun c24 => ?_) (fun c24 => ?_)
      · replace h := z_in c24 h
        refine v_sub [1, 2] rfl ?_
        exact tj_X11_isState_136 o hX hK0 h
      · replace h := z_ip c24 h
        refine v_goto o 132 dX11_isState_104 (by decide) ?_
        refine v_sub [1, 2] rfl ?_
        exact tj_X11_isState_132 o hX hK0 h
def j_X11_isState_87 (G : z_G) (D : z_D) (a0 : Nat) (a1 : Int32) (a3 : Int32) (a4 : Int32)  : Option (Int32 × z_D) :=
  (j_X11_isState_88 G D  a0 a1 a3 a4 (0 : Int32))
set_option maxRecDepth 100000 in
set_option maxHeartbeats 4000000 in
theorem tj_X11_isState_87 {q : z_Q} {X : z_X} {G : z_G} {D : z_D} {a0 : Nat} {a1 : Int32} {a3 : Int32} {a4 : Int32}  {r : Int32} {D1 : z_D} (o : z_O q X cX11_isState 6 "FlashTrustModel" "isState" (some .boolean)) (hX : x_R X = z_rm 2 0 0) (hK0 : z_K G a0 = 111) (h : j_X11_isState_87 G D a0 a1 a3 a4  = some (r, D1)) : z_V q X 6 (z_F q X (some (.int r)) G D1 0 0) 0 0 G D 87 [(0, .ref (z_w q a0)), (1, .int a1), (3, .int a3), (4, .int a4)] [] := by
  unfold j_X11_isState_87 at h
  refine v_iconst o (0 : Int32) dX11_isState_87 (by decide) ?_
  exact tj_X11_isState_88 o hX hK0 h
def f_X11_isState (G : z_G) (D : z_D) (a0 : Nat) (a1 : Int32) : Option (Int32 × z_D) :=
  (f_X11_wide G D a0 (a1 + (7 : Int32)) (2 : Int32)).bind (fun r2 => ((f_X11_wide G D a0 (a1 + (18 : Int32)) (2 : Int32)).bind (fun r4 => (z_gK G 1 (z_R G 1100 a0) (z_gA G 1 (z_R G 1100 a0) (a1 + (15 : Int32)) ((f_X11_wide G D a0 a1 (4 : Int32)).bind (fun r9 => ((if r9 < (1 : Int32) then (j_X11_isState_87 G D  a0 a1 r4 (z_U D (z_R G 1100 a0) ((a1 + (15 : Int32))).toNatClampNeg)) else (z_gA G 1 (z_R G 1100 a0) (a1 + (4 : Int32)) ((if (1 : Int32) < (z_U D (z_R G 1100 a0) ((a1 + (4 : Int32))).toNatClampNeg) then (j_X11_isState_87 G D  a0 a1 r4 (z_U D (z_R G 1100 a0) ((a1 + (15 : Int32))).toNatClampNeg)) else ((f_X11_wide G D a0 (a1 + (5 : Int32)) (2 : Int32)).bind (fun r29 => ((if r29 < (1 : Int32) then (j_X11_isState_87 G D  a0 a1 r4 (z_U D (z_R G 1100 a0) ((a1 + (15 : Int32))).toNatClampNeg)) else ((if r2 < (1 : Int32) then (j_X11_isState_87 G D  a0 a1 r4 (z_U D (z_R G 1100 a0) ((a1 + (15 : Int32))).toNatClampNeg)) else ((if (1024 : Int32) < r2 then (j_X11_isState_87 G D  a0 a1 r4 (z_U D (z_R G 1100 a0) ((a1 + (15 : Int32))).toNatClampNeg)) else ((if (3 : Int32) < (z_U D (z_R G 1100 a0) ((a1 + (15 : Int32))).toNatClampNeg) then (j_X11_isState_87 G D  a0 a1 r4 (z_U D (z_R G 1100 a0) ((a1 + (15 : Int32))).toNatClampNeg)) else ((j_X11_isState_88 G D  a0 a1 r4 (z_U D (z_R G 1100 a0) ((a1 + (15 : Int32))).toNatClampNeg) (1 : Int32)))))))))))))))))))))))))
set_option maxRecDepth 100000 in
set_option maxHeartbeats 4000000 in
theorem b_X11_isState {q : z_Q} {X : z_X} {G : z_G} {D : z_D} {a0 : Nat} {a1 : Int32} {r : Int32} {D1 : z_D} (o : z_O q X cX11_isState 6 "FlashTrustModel" "isState" (some .boolean)) (hX : x_R X = z_rm 2 0 0) (hK0 : z_K G a0 = 111) (h : f_X11_isState G D a0 a1 = some (r, D1)) : z_V q X 6 (z_F q X (some (.int r)) G D1 0 0) 0 0 G D 0 [(0, .ref (z_w q a0)), (1, .int a1)] [] := by
  unfold f_X11_isState at h
  refine v_aload_n o dX11_isState_0 rfl 0 rfl ?_
  refine v_iload_n o dX11_isState_1 rfl 1 rfl ?_
  refine v_bipush o (7 : Int32) dX11_isState_2 (by decide) ?_
  refine v_iadd o dX11_isState_4 ?_
  refine v_iconst o (2 : Int32) dX11_isState_5 (by decide) ?_
  obtain ⟨r2, he1, h⟩ := z_bind h
  refine v_callV o yw_X11_wide ln_5_71 wi_X11_wide ws_X11_wide hX (by decide) 11 rfl hK0 (As := [.int (a1 + (7 : Int32)), .int (2 : Int32)]) rfl rfl (Nat.le_of_ble_eq_true rfl) (e_X11_wide hK0 he1) dX11_isState_6 ?_
  refine v_istore_n o [(2, .int r2), (0, .ref (z_w q a0)), (1, .int a1)] dX11_isState_9 rfl (by decide) rfl ?_
  refine v_aload_n o dX11_isState_10 rfl 1 rfl ?_
  refine v_iload_n o dX11_isState_11 rfl 2 rfl ?_
  refine v_bipush o (18 : Int32) dX11_isState_12 (by decide) ?_
  refine v_iadd o dX11_isState_14 ?_
  refine v_iconst o (2 : Int32) dX11_isState_15 (by decide) ?_
  obtain ⟨r4, he3, h⟩ := z_bind h
  refine v_callV o yw_X11_wide ln_5_71 wi_X11_wide ws_X11_wide hX (by decide) 11 rfl hK0 (As := [.int (a1 + (18 : Int32)), .int (2 : Int32)]) rfl rfl (Nat.le_of_ble_eq_true rfl) (e_X11_wide hK0 he3) dX11_isState_16 ?_
  refine v_istore_n o [(3, .int r4), (2, .int r2), (0, .ref (z_w q a0)), (1, .int a1)] dX11_isState_19 rfl (by decide) rfl ?_
  refine v_aload_n o dX11_isState_20 rfl 2 rfl ?_
  obtain ⟨n5, h⟩ := z_gK_of h
  refine gt_11_0 o hK0 ln_5_95 (by rw [n5]; decide) dX11_isState_21 ?_
  refine v_iload_n o dX11_isState_24 rfl 3 rfl ?_
  refine v_bipush o (15 : Int32) dX11_isState_25 (by decide) ?_
  refine v_iadd o dX11_isState_27 ?_
  obtain ⟨n6, n7, h⟩ := z_gA_of h
  refine v_iald o n6 n7 dX11_isState_28 ?_
  refine v_istore o [(4, .int (z_U D (z_R G 1100 a0) ((a1 + (15 : Int32))).toNatClampNeg)), (3, .int r4), (2, .int r2), (0, .ref (z_w q a0)), (1, .int a1)] dX11_isState_29 (by decide) rfl ?_
  refine v_aload_n o dX11_isState_31 rfl 3 rfl ?_
  refine v_iload_n o dX11_isState_32 rfl 4 rfl ?_
  refine v_iconst o (4 : Int32) dX11_isState_33 (by decide) ?_
  obtain ⟨r9, he8, h⟩ := z_bind h
  refine v_callV o yw_X11_wide ln_5_71 wi_X11_wide ws_X11_wide hX (by decide) 11 rfl hK0 (As := [.int a1, .int (4 : Int32)]) rfl rfl (Nat.le_of_ble_eq_true rfl) (e_X11_wide hK0 he8) dX11_isState_34 ?_
  refine v_iconst o (1 : Int32) dX11_isState_37 (by decide) ?_
  refine v_icmp_lt o 87 dX11_isState_38 (by decide) (fun c10 => ?_) (fun c10 => ?_)
  · replace h := z_ip c10 h
    refine v_sub [3, 4, 1, 0] rfl ?_
    exact tj_X11_isState_87 o hX hK0 h
  · replace h := z_in c10 h
    refine v_aload_n o dX11_isState_41 rfl 3 rfl ?_
    refine gt_11_0 o hK0 ln_5_95 (by rw [n5]; decide) dX11_isState_42 ?_
    refine v_iload_n o dX11_isState_45 rfl 4 rfl ?_
    refine v_iconst o (4 : Int32) dX11_isState_46 (by decide) ?_
    refine v_iadd o dX11_isState_47 ?_
    obtain ⟨n25, n26, h⟩ := z_gA_of h
    refine v_iald o n25 n26 dX11_isState_48 ?_
    refine v_iconst o (1 : Int32) dX11_isState_49 (by decide) ?_
    refine v_icmp_gt o 87 dX11_isState_50 (by decide) (fun c27 => ?_) (fun c27 => ?_)
    · replace h := z_ip c27 h
      refine v_sub [3, 4, 1, 0] rfl ?_
      exact tj_X11_isState_87 o hX hK0 h
    · replace h := z_in c27 h
      refine v_aload_n o dX11_isState_53 rfl 3 rfl ?_
      refine v_iload_n o dX11_isState_54 rfl 4 rfl ?_
      refine v_iconst o (5 : Int32) dX11_isState_55 (by decide) ?_
      refine v_iadd o dX11_isState_56 ?_
      refine v_iconst o (2 : Int32) dX11_isState_57 (by decide) ?_
      obtain ⟨r29, he28, h⟩ := z_bind h
      refine v_callV o yw_X11_wide ln_5_71 wi_X11_wide ws_X11_wide hX (by decide) 11 rfl hK0 (As := [.int (a1 + (5 : Int32)), .int (2 : Int32)]) rfl rfl (Nat.le_of_ble_eq_true rfl) (e_X11_wide hK0 he28) dX11_isState_58 ?_
      refine v_iconst o (1 : Int32) dX11_isState_61 (by decide) ?_
      refine v_icmp_lt o 87 dX11_isState_62 (by decide) (fun c30 => ?_) (fun c30 => ?_)
      · replace h := z_ip c30 h
        refine v_sub [3, 4, 1, 0] rfl ?_
        exact tj_X11_isState_87 o hX hK0 h
      · replace h := z_in c30 h
        refine v_iload_n o dX11_isState_65 rfl 2 rfl ?_
        refine v_iconst o (1 : Int32) dX11_isState_66 (by decide) ?_
        refine v_icmp_lt o 87 dX11_isState_67 (by decide) (fun c31 => ?_) (fun c31 => ?_)
        · replace h := z_ip c31 h
          refine v_sub [3, 4, 1, 0] rfl ?_
          exact tj_X11_isState_87 o hX hK0 h
        · replace h := z_in c31 h
          refine v_iload_n o dX11_isState_70 rfl 2 rfl ?_
          refine v_sipush o (1024 : Int32) dX11_isState_71 (by decide) ?_
          refine v_icmp_gt o 87 dX11_isState_74 (by decide) (fun c32 => ?_) (fun c32 => ?_)
          · replace h := z_ip c32 h
            refine v_sub [3, 4, 1, 0] rfl ?_
            exact tj_X11_isState_87 o hX hK0 h
          · replace h := z_in c32 h
            refine v_iload o dX11_isState_77 0 rfl ?_
            refine v_iconst o (3 : Int32) dX11_isState_79 (by decide) ?_
            refine v_icmp_gt o 87 dX11_isState_80 (by decide) (fun c33 => ?_) (fun c33 => ?_)
            · replace h := z_ip c33 h
              refine v_sub [3, 4, 1, 0] rfl ?_
              exact tj_X11_isState_87 o hX hK0 h
            · replace h := z_in c33 h
              refine v_iconst o (1 : Int32) dX11_isState_83 (by decide) ?_
              refine v_goto o 88 dX11_isState_84 (by decide) ?_
              refine v_sub [3, 4, 1, 0] rfl ?_
              exact tj_X11_isState_88 o hX hK0 h
theorem e_X11_isState {q : z_Q} {l : Launch} {G : z_G} {D : z_D} {a0 : Nat} {a1 : Int32} {r : Int32} {D1 : z_D} (hK0 : z_K G a0 = 111) (h : f_X11_isState G D a0 a1 = some (r, D1)) : z_E q l yX11_isState cX11_isState 6 (some .boolean) 2 0 0 [.ref (z_w q a0), .int a1] G D (some (.int r)) G D1 :=
  z_E.of (by decide) (Nat.le_of_ble_eq_true rfl) (fun X hX _ o => b_X11_isState o hX hK0 h)
def p_X11_layState_13 (q : z_Q) (X : z_X) (Q : State → Prop) (G : z_G) (a0 : Nat) : (z_D × Int32) → Prop := (fun v => z_V q X 3 Q 0 0 G v.1 13 [(0, .ref (z_w q a0)), (1, .int v.2)] [])
def x_X11_layState_13 (q : z_Q) (X : z_X) (Q : State → Prop) (G : z_G) (a0 : Nat) : z_D → Prop := (fun v => z_V q X 3 Q 0 0 G v 79 [(0, .ref (z_w q a0))] [])
def k_X11_layState_13 (q : z_Q) (X : z_X) (Q : State → Prop) (G : z_G) (a0 : Nat) : (z_D × Int32) ⊕ z_D → Prop := Sum.elim (p_X11_layState_13 q X Q G a0) (x_X11_layState_13 q X Q G a0)
def j_X11_layState_L13_58 (G : z_G) (D : z_D) (a0 : Nat) (a1 : Int32) (a2 : Int32)  : Option ((z_D × Int32) ⊕ z_D) :=
  (f_X11_wide G (z_sI D 1114 a0 a2) a0 a2 (4 : Int32)).bind (fun r7 => ((some (.inl ((z_sI (z_sI D 1114 a0 a2) 1115 a0 r7), (a1 + (1 : Int32)))))))
set_option maxRecDepth 100000 in
set_option maxHeartbeats 4000000 in
theorem tj_X11_layState_L13_58 {q : z_Q} {X : z_X} {G : z_G} {D : z_D} {Q : State → Prop}  {a0 : Nat} {a1 : Int32} {a2 : Int32}  (o : z_O q X cX11_layState 3 "FlashTrustModel" "layState" none) (hX : x_R X = z_rm 3 0 0) (hK0 : z_K G a0 = 111) {ρ : (z_D × Int32) ⊕ z_D} (h : j_X11_layState_L13_58 G D a0 a1 a2  = some ρ) (hk : k_X11_layState_13 q X Q G a0 ρ) : z_V q X 3 Q 0 0 G D 58 [(0, .ref (z_w q a0)), (1, .int a1), (2, .int a2)] [] := by
  unfold j_X11_layState_L13_58 at h
  refine v_aload_n o dX11_layState_58 rfl 0 rfl ?_
  refine v_iload_n o dX11_layState_59 rfl 2 rfl ?_
  refine pt_11_14 o hK0 ln_5_109 dX11_layState_60 ?_
  refine v_aload_n o dX11_layState_63 rfl 0 rfl ?_
  refine v_aload_n o dX11_layState_64 rfl 0 rfl ?_
  refine v_iload_n o dX11_layState_65 rfl 2 rfl ?_
  refine v_iconst o (4 : Int32) dX11_layState_66 (by decide) ?_
  obtain ⟨r7, he6, h⟩ := z_bind h
  refine v_callV o yw_X11_wide ln_5_71 wi_X11_wide ws_X11_wide hX (by decide) 11 rfl hK0 (As := [.int a2, .int (4 : Int32)]) rfl rfl (Nat.le_of_ble_eq_true rfl) (e_X11_wide hK0 he6) dX11_layState_67 ?_
  refine pt_11_15 o hK0 ln_5_110 dX11_layState_70 ?_
  refine v_iinc o (a1 + (1 : Int32)) [(1, .int (a1 + (1 : Int32))), (0, .ref (z_w q a0)), (2, .int a2)] dX11_layState_73 1 rfl rfl (by decide) rfl ?_
  refine v_goto o 13 dX11_layState_76 (by decide) ?_
  obtain rfl := z_some h
  refine v_sub [1, 0] rfl ?_
  exact hk
def c_X11_layState_13 (G : z_G) (D : z_D) (a0 : Nat) (a1 : Int32) : Option ((z_D × Int32) ⊕ z_D) :=
  (if (8 : Int32) ≤ a1 then (some (.inr D)) else ((f_X11_isState G D a0 ((1024 : Int32) + ((32 : Int32) * a1))).bind (fun p3 => ((if p3.1 = (0 : Int32) then ((some (.inl (p3.2, (a1 + (1 : Int32)))))) else ((if (z_I p3.2 1114 a0) = (-2 : Int32) then (j_X11_layState_L13_58 G p3.2  a0 a1 ((1024 : Int32) + ((32 : Int32) * a1))) else ((f_X11_wide G p3.2 a0 ((1024 : Int32) + ((32 : Int32) * a1)) (4 : Int32)).bind (fun r9 => ((if r9 ≤ (z_I p3.2 1115 a0) then ((some (.inl (p3.2, (a1 + (1 : Int32)))))) else (j_X11_layState_L13_58 G p3.2  a0 a1 ((1024 : Int32) + ((32 : Int32) * a1))))))))))))))
set_option maxRecDepth 100000 in
set_option maxHeartbeats 4000000 in
theorem tc_X11_layState_13 {q : z_Q} {X : z_X} {G : z_G} {D : z_D} {Q : State → Prop} {a0 : Nat} {a1 : Int32} (o : z_O q X cX11_layState 3 "FlashTrustModel" "layState" none) (hX : x_R X = z_rm 3 0 0) (hK0 : z_K G a0 = 111) {ρ : (z_D × Int32) ⊕ z_D} (h : c_X11_layState_13 G D a0 a1 = some ρ) (hk : k_X11_layState_13 q X Q G a0 ρ) : z_V q X 3 Q 0 0 G D 13 [(0, .ref (z_w q a0)), (1, .int a1)] [] := by
  unfold c_X11_layState_13 at h
  refine v_iload_n o dX11_layState_13 rfl 1 rfl ?_
  refine v_bipush o (8 : Int32) dX11_layState_14 (by decide) ?_
  refine v_icmp_ge o 79 dX11_layState_16 (by decide) (fun c1 => ?_) (fun c1 => ?_)
  · replace h := z_ip c1 h
    obtain rfl := z_some h
    refine v_sub [0] rfl ?_
    exact hk
  · replace h := z_in c1 h
    refine v_sipush o (1024 : Int32) dX11_layState_19 (by decide) ?_
    refine v_bipush o (32 : Int32) dX11_layState_22 (by decide) ?_
    refine v_iload_n o dX11_layState_24 rfl 1 rfl ?_
    refine v_imul o dX11_layState_25 ?_
    refine v_iadd o dX11_layState_26 ?_
    refine v_istore_n o [(2, .int ((1024 : Int32) + ((32 : Int32) * a1))), (0, .ref (z_w q a0)), (1, .int a1)] dX11_layState_27 rfl (by decide) rfl ?_
    refine v_aload_n o dX11_layState_28 rfl 1 rfl ?_
    refine v_iload_n o dX11_layState_29 rfl 0 rfl ?_
    obtain ⟨p3, he2, h⟩ := z_bind h
    refine v_callV o yw_X11_isState ln_5_67 wi_X11_isState ws_X11_isState hX (by decide) 11 rfl hK0 (As := [.int ((1024 : Int32) + ((32 : Int32) * a1))]) rfl rfl (Nat.le_of_ble_eq_true rfl) (e_X11_isState hK0 he2) dX11_layState_30 ?_
    refine v_if_eq o 73 dX11_layState_33 (by decide) (fun c4 => ?_) (fun c4 => ?_)
    · replace h := z_ip c4 h
      refine v_iinc o (a1 + (1 : Int32)) [(1, .int (a1 + (1 : Int32))), (2, .int ((1024 : Int32) + ((32 : Int32) * a1))), (0, .ref (z_w q a0))] dX11_layState_73 2 rfl rfl (by decide) rfl ?_
      refine v_goto o 13 dX11_layState_76 (by decide) ?_
      obtain rfl := z_some h
      refine v_sub [2, 0] rfl ?_
      exact hk
    · replace h := z_in c4 h
      refine v_aload_n o dX11_layState_36 rfl 1 rfl ?_
      refine gt_11_14 o hK0 ln_5_109 dX11_layState_37 ?_
      refine v_bipush o (-2 : Int32) dX11_layState_40 (by decide) ?_
      refine v_icmp_eq o 58 dX11_layState_42 (by decide) (fun c5 => ?_) (fun c5 => ?_)
      · replace h := z_ip c5 h
        refine v_sub [1, 2, 0] rfl ?_
        exact tj_X11_layState_L13_58 o hX hK0 h hk
      · replace h := z_in c5 h
        refine v_aload_n o dX11_layState_45 rfl 1 rfl ?_
        refine v_iload_n o dX11_layState_46 rfl 0 rfl ?_
        refine v_iconst o (4 : Int32) dX11_layState_47 (by decide) ?_
        obtain ⟨r9, he8, h⟩ := z_bind h
        refine v_callV o yw_X11_wide ln_5_71 wi_X11_wide ws_X11_wide hX (by decide) 11 rfl hK0 (As := [.int ((1024 : Int32) + ((32 : Int32) * a1)), .int (4 : Int32)]) rfl rfl (Nat.le_of_ble_eq_true rfl) (e_X11_wide hK0 he8) dX11_layState_48 ?_
        refine v_aload_n o dX11_layState_51 rfl 1 rfl ?_
        refine gt_11_15 o hK0 ln_5_110 dX11_layState_52 ?_
        refine v_icmp_le o 73 dX11_layState_55 (by decide) (fun c10 => ?_) (fun c10 => ?_)
        · replace h := z_ip c10 h
          refine v_iinc o (a1 + (1 : Int32)) [(1, .int (a1 + (1 : Int32))), (2, .int ((1024 : Int32) + ((32 : Int32) * a1))), (0, .ref (z_w q a0))] dX11_layState_73 2 rfl rfl (by decide) rfl ?_
          refine v_goto o 13 dX11_layState_76 (by decide) ?_
          obtain rfl := z_some h
          refine v_sub [2, 0] rfl ?_
          exact hk
        · replace h := z_in c10 h
          refine v_sub [1, 2, 0] rfl ?_
          exact tj_X11_layState_L13_58 o hX hK0 h hk
def f_X11_layState (G : z_G) (D : z_D) (a0 : Nat) : Option (z_D) :=
  ((z_loop (fun v => c_X11_layState_13 G v.1 a0 v.2) 4000 ((z_sI (z_sI D 1114 a0 (-2 : Int32)) 1115 a0 (0 : Int32)), (0 : Int32))).bind (fun e11 => (if (z_I e11 1114 a0) = (-2 : Int32) then ((some (z_sJ (z_sI (z_sI (z_sI (z_sJ (z_sI (z_sI (z_sI e11 1116 a0 (0 : Int32)) 1117 a0 (1 : Int32)) 1118 a0 (z_I (z_sI (z_sI e11 1116 a0 (0 : Int32)) 1117 a0 (1 : Int32)) 1101 a0)) 1119 a0 (z_J (z_sI (z_sI (z_sI e11 1116 a0 (0 : Int32)) 1117 a0 (1 : Int32)) 1118 a0 (z_I (z_sI (z_sI e11 1116 a0 (0 : Int32)) 1117 a0 (1 : Int32)) 1101 a0)) 1102 a0)) 1120 a0 (0 : Int32)) 1121 a0 (0 : Int32)) 1122 a0 (0 : Int32)) 1123 a0 (0 : Int64)))) else (z_gK G 1 (z_R G 1100 a0) (z_gA G 1 (z_R G 1100 a0) ((z_I e11 1114 a0) + (4 : Int32)) ((f_X11_wide G (z_sI e11 1116 a0 (z_U e11 (z_R G 1100 a0) (((z_I e11 1114 a0) + (4 : Int32))).toNatClampNeg)) a0 ((z_I (z_sI e11 1116 a0 (z_U e11 (z_R G 1100 a0) (((z_I e11 1114 a0) + (4 : Int32))).toNatClampNeg)) 1114 a0) + (5 : Int32)) (2 : Int32)).bind (fun r18 => ((f_X11_wide G (z_sI (z_sI e11 1116 a0 (z_U e11 (z_R G 1100 a0) (((z_I e11 1114 a0) + (4 : Int32))).toNatClampNeg)) 1117 a0 r18) a0 ((z_I (z_sI (z_sI e11 1116 a0 (z_U e11 (z_R G 1100 a0) (((z_I e11 1114 a0) + (4 : Int32))).toNatClampNeg)) 1117 a0 r18) 1114 a0) + (7 : Int32)) (2 : Int32)).bind (fun r20 => ((f_X11_six G (z_sI (z_sI (z_sI e11 1116 a0 (z_U e11 (z_R G 1100 a0) (((z_I e11 1114 a0) + (4 : Int32))).toNatClampNeg)) 1117 a0 r18) 1118 a0 r20) a0 ((z_I (z_sI (z_sI (z_sI e11 1116 a0 (z_U e11 (z_R G 1100 a0) (((z_I e11 1114 a0) + (4 : Int32))).toNatClampNeg)) 1117 a0 r18) 1118 a0 r20) 1114 a0) + (9 : Int32))).bind (fun r22 => (z_gA G 1 (z_R G 1100 a0) ((z_I (z_sJ (z_sI (z_sI (z_sI e11 1116 a0 (z_U e11 (z_R G 1100 a0) (((z_I e11 1114 a0) + (4 : Int32))).toNatClampNeg)) 1117 a0 r18) 1118 a0 r20) 1119 a0 r22) 1114 a0) + (15 : Int32)) ((f_X11_wide G (z_sI (z_sJ (z_sI (z_sI (z_sI e11 1116 a0 (z_U e11 (z_R G 1100 a0) (((z_I e11 1114 a0) + (4 : Int32))).toNatClampNeg)) 1117 a0 r18) 1118 a0 r20) 1119 a0 r22) 1120 a0 (z_U (z_sJ (z_sI (z_sI (z_sI e11 1116 a0 (z_U e11 (z_R G 1100 a0) (((z_I e11 1114 a0) + (4 : Int32))).toNatClampNeg)) 1117 a0 r18) 1118 a0 r20) 1119 a0 r22) (z_R G 1100 a0) (((z_I (z_sJ (z_sI (z_sI (z_sI e11 1116 a0 (z_U e11 (z_R G 1100 a0) (((z_I e11 1114 a0) + (4 : Int32))).toNatClampNeg)) 1117 a0 r18) 1118 a0 r20) 1119 a0 r22) 1114 a0) + (15 : Int32))).toNatClampNeg)) a0 ((z_I (z_sI (z_sJ (z_sI (z_sI (z_sI e11 1116 a0 (z_U e11 (z_R G 1100 a0) (((z_I e11 1114 a0) + (4 : Int32))).toNatClampNeg)) 1117 a0 r18) 1118 a0 r20) 1119 a0 r22) 1120 a0 (z_U (z_sJ (z_sI (z_sI (z_sI e11 1116 a0 (z_U e11 (z_R G 1100 a0) (((z_I e11 1114 a0) + (4 : Int32))).toNatClampNeg)) 1117 a0 r18) 1118 a0 r20) 1119 a0 r22) (z_R G 1100 a0) (((z_I (z_sJ (z_sI (z_sI (z_sI e11 1116 a0 (z_U e11 (z_R G 1100 a0) (((z_I e11 1114 a0) + (4 : Int32))).toNatClampNeg)) 1117 a0 r18) 1118 a0 r20) 1119 a0 r22) 1114 a0) + (15 : Int32))).toNatClampNeg)) 1114 a0) + (16 : Int32)) (2 : Int32)).bind (fun r26 => ((f_X11_wide G (z_sI (z_sI (z_sJ (z_sI (z_sI (z_sI e11 1116 a0 (z_U e11 (z_R G 1100 a0) (((z_I e11 1114 a0) + (4 : Int32))).toNatClampNeg)) 1117 a0 r18) 1118 a0 r20) 1119 a0 r22) 1120 a0 (z_U (z_sJ (z_sI (z_sI (z_sI e11 1116 a0 (z_U e11 (z_R G 1100 a0) (((z_I e11 1114 a0) + (4 : Int32))).toNatClampNeg)) 1117 a0 r18) 1118 a0 r20) 1119 a0 r22) (z_R G 1100 a0) (((z_I (z_sJ (z_sI (z_sI (z_sI e11 1116 a0 (z_U e11 (z_R G 1100 a0) (((z_I e11 1114 a0) + (4 : Int32))).toNatClampNeg)) 1117 a0 r18) 1118 a0 r20) 1119 a0 r22) 1114 a0) + (15 : Int32))).toNatClampNeg)) 1121 a0 r26) a0 ((z_I (z_sI (z_sI (z_sJ (z_sI (z_sI (z_sI e11 1116 a0 (z_U e11 (z_R G 1100 a0) (((z_I e11 1114 a0) + (4 : Int32))).toNatClampNeg)) 1117 a0 r18) 1118 a0 r20) 1119 a0 r22) 1120 a0 (z_U (z_sJ (z_sI (z_sI (z_sI e11 1116 a0 (z_U e11 (z_R G 1100 a0) (((z_I e11 1114 a0) + (4 : Int32))).toNatClampNeg)) 1117 a0 r18) 1118 a0 r20) 1119 a0 r22) (z_R G 1100 a0) (((z_I (z_sJ (z_sI (z_sI (z_sI e11 1116 a0 (z_U e11 (z_R G 1100 a0) (((z_I e11 1114 a0) + (4 : Int32))).toNatClampNeg)) 1117 a0 r18) 1118 a0 r20) 1119 a0 r22) 1114 a0) + (15 : Int32))).toNatClampNeg)) 1121 a0 r26) 1114 a0) + (18 : Int32)) (2 : Int32)).bind (fun r28 => ((f_X11_six G (z_sI (z_sI (z_sI (z_sJ (z_sI (z_sI (z_sI e11 1116 a0 (z_U e11 (z_R G 1100 a0) (((z_I e11 1114 a0) + (4 : Int32))).toNatClampNeg)) 1117 a0 r18) 1118 a0 r20) 1119 a0 r22) 1120 a0 (z_U (z_sJ (z_sI (z_sI (z_sI e11 1116 a0 (z_U e11 (z_R G 1100 a0) (((z_I e11 1114 a0) + (4 : Int32))).toNatClampNeg)) 1117 a0 r18) 1118 a0 r20) 1119 a0 r22) (z_R G 1100 a0) (((z_I (z_sJ (z_sI (z_sI (z_sI e11 1116 a0 (z_U e11 (z_R G 1100 a0) (((z_I e11 1114 a0) + (4 : Int32))).toNatClampNeg)) 1117 a0 r18) 1118 a0 r20) 1119 a0 r22) 1114 a0) + (15 : Int32))).toNatClampNeg)) 1121 a0 r26) 1122 a0 r28) a0 ((z_I (z_sI (z_sI (z_sI (z_sJ (z_sI (z_sI (z_sI e11 1116 a0 (z_U e11 (z_R G 1100 a0) (((z_I e11 1114 a0) + (4 : Int32))).toNatClampNeg)) 1117 a0 r18) 1118 a0 r20) 1119 a0 r22) 1120 a0 (z_U (z_sJ (z_sI (z_sI (z_sI e11 1116 a0 (z_U e11 (z_R G 1100 a0) (((z_I e11 1114 a0) + (4 : Int32))).toNatClampNeg)) 1117 a0 r18) 1118 a0 r20) 1119 a0 r22) (z_R G 1100 a0) (((z_I (z_sJ (z_sI (z_sI (z_sI e11 1116 a0 (z_U e11 (z_R G 1100 a0) (((z_I e11 1114 a0) + (4 : Int32))).toNatClampNeg)) 1117 a0 r18) 1118 a0 r20) 1119 a0 r22) 1114 a0) + (15 : Int32))).toNatClampNeg)) 1121 a0 r26) 1122 a0 r28) 1114 a0) + (20 : Int32))).bind (fun r30 => ((some (z_sJ (z_sI (z_sI (z_sI (z_sJ (z_sI (z_sI (z_sI e11 1116 a0 (z_U e11 (z_R G 1100 a0) (((z_I e11 1114 a0) + (4 : Int32))).toNatClampNeg)) 1117 a0 r18) 1118 a0 r20) 1119 a0 r22) 1120 a0 (z_U (z_sJ (z_sI (z_sI (z_sI e11 1116 a0 (z_U e11 (z_R G 1100 a0) (((z_I e11 1114 a0) + (4 : Int32))).toNatClampNeg)) 1117 a0 r18) 1118 a0 r20) 1119 a0 r22) (z_R G 1100 a0) (((z_I (z_sJ (z_sI (z_sI (z_sI e11 1116 a0 (z_U e11 (z_R G 1100 a0) (((z_I e11 1114 a0) + (4 : Int32))).toNatClampNeg)) 1117 a0 r18) 1118 a0 r20) 1119 a0 r22) 1114 a0) + (15 : Int32))).toNatClampNeg)) 1121 a0 r26) 1122 a0 r28) 1123 a0 r30)))))))))))))))))))))
set_option maxRecDepth 100000 in
set_option maxHeartbeats 4000000 in
theorem b_X11_layState {q : z_Q} {X : z_X} {G : z_G} {D : z_D} {a0 : Nat}  {D1 : z_D} (o : z_O q X cX11_layState 3 "FlashTrustModel" "layState" none) (hX : x_R X = z_rm 3 0 0) (hK0 : z_K G a0 = 111) (h : f_X11_layState G D a0 = some D1) : z_V q X 3 (z_F q X none G D1 0 0) 0 0 G D 0 [(0, .ref (z_w q a0))] [] := by
  unfold f_X11_layState at h
  refine v_aload_n o dX11_layState_0 rfl 0 rfl ?_
  refine v_bipush o (-2 : Int32) dX11_layState_1 (by decide) ?_
  refine pt_11_14 o hK0 ln_5_109 dX11_layState_3 ?_
  refine v_aload_n o dX11_layState_6 rfl 0 rfl ?_
  refine v_iconst o (0 : Int32) dX11_layState_7 (by decide) ?_
  refine pt_11_15 o hK0 ln_5_110 dX11_layState_8 ?_
  refine v_iconst o (0 : Int32) dX11_layState_11 (by decide) ?_
  refine v_istore_n o [(1, .int (0 : Int32)), (0, .ref (z_w q a0))] dX11_layState_12 rfl (by decide) rfl ?_
  refine v_sub [1, 0] rfl ?_
  obtain ⟨e11, he12, h⟩ := z_bind h
  refine z_loopV (P := p_X11_layState_13 q X _ G a0) (E := x_X11_layState_13 q X _ G a0) (fun v ρ hb hk => tc_X11_layState_13 (D := v.1) (a0 := a0) (a1 := v.2) o hX hK0 hb hk) 4000 _ e11 he12 ?_
  show z_V q X 3 _ _ _ G e11 79 [(0, .ref (z_w q a0))] []
  refine v_aload_n o dX11_layState_79 rfl 0 rfl ?_
  refine gt_11_14 o hK0 ln_5_109 dX11_layState_80 ?_
  refine v_bipush o (-2 : Int32) dX11_layState_83 (by decide) ?_
  refine v_icmp_ne o 135 dX11_layState_85 (by decide) (fun c13 => ?_) (fun c13 => ?_)
  · replace h := z_in c13 h
    refine v_aload_n o dX11_layState_135 rfl 0 rfl ?_
    refine v_aload_n o dX11_layState_136 rfl 0 rfl ?_
    obtain ⟨n14, h⟩ := z_gK_of h
    refine gt_11_0 o hK0 ln_5_95 (by rw [n14]; decide) dX11_layState_137 ?_
    refine v_aload_n o dX11_layState_140 rfl 0 rfl ?_
    refine gt_11_14 o hK0 ln_5_109 dX11_layState_141 ?_
    refine v_iconst o (4 : Int32) dX11_layState_144 (by decide) ?_
    refine v_iadd o dX11_layState_145 ?_
    obtain ⟨n15, n16, h⟩ := z_gA_of h
    refine v_iald o n15 n16 dX11_layState_146 ?_
    refine pt_11_16 o hK0 ln_5_111 dX11_layState_147 ?_
    refine v_aload_n o dX11_layState_150 rfl 0 rfl ?_
    refine v_aload_n o dX11_layState_151 rfl 0 rfl ?_
    refine v_aload_n o dX11_layState_152 rfl 0 rfl ?_
    refine gt_11_14 o hK0 ln_5_109 dX11_layState_153 ?_
    refine v_iconst o (5 : Int32) dX11_layState_156 (by decide) ?_
    refine v_iadd o dX11_layState_157 ?_
    refine v_iconst o (2 : Int32) dX11_layState_158 (by decide) ?_
    obtain ⟨r18, he17, h⟩ := z_bind h
    refine v_callV o yw_X11_wide ln_5_71 wi_X11_wide ws_X11_wide hX (by decide) 11 rfl hK0 (As := [.int ((z_I (z_sI e11 1116 a0 (z_U e11 (z_R G 1100 a0) (((z_I e11 1114 a0) + (4 : Int32))).toNatClampNeg)) 1114 a0) + (5 : Int32)), .int (2 : Int32)]) rfl rfl (Nat.le_of_ble_eq_true rfl) (e_X11_wide hK0 he17) dX11_layState_159 ?_
    refine pt_11_17 o hK0 ln_5_112 dX11_layState_162 ?_
    refine v_aload_n o dX11_layState_165 rfl 0 rfl ?_
    refine v_aload_n o dX11_layState_166 rfl 0 rfl ?_
    refine v_aload_n o dX11_layState_167 rfl 0 rfl ?_
    refine gt_11_14 o hK0 ln_5_109 dX11_layState_168 ?_
    refine v_bipush o (7 : Int32) dX11_layState_171 (by decide) ?_
    refine v_iadd o dX11_layState_173 ?_
    refine v_iconst o (2 : Int32) dX11_layState_174 (by decide) ?_
    obtain ⟨r20, he19, h⟩ := z_bind h
    refine v_callV o yw_X11_wide ln_5_71 wi_X11_wide ws_X11_wide hX (by decide) 11 rfl hK0 (As := [.int ((z_I (z_sI (z_sI e11 1116 a0 (z_U e11 (z_R G 1100 a0) (((z_I e11 1114 a0) + (4 : Int32))).toNatClampNeg)) 1117 a0 r18) 1114 a0) + (7 : Int32)), .int (2 : Int32)]) rfl rfl (Nat.le_of_ble_eq_true rfl) (e_X11_wide hK0 he19) dX11_layState_175 ?_
    refine pt_11_18 o hK0 ln_5_113 dX11_layState_178 ?_
    refine v_aload_n o dX11_layState_181 rfl 0 rfl ?_
    refine v_aload_n o dX11_layState_182 rfl 0 rfl ?_
    refine v_aload_n o dX11_layState_183 rfl 0 rfl ?_
    refine gt_11_14 o hK0 ln_5_109 dX11_layState_184 ?_
    refine v_bipush o (9 : Int32) dX11_layState_187 (by decide) ?_
    refine v_iadd o dX11_layState_189 ?_
    obtain ⟨r22, he21, h⟩ := z_bind h
    refine v_callV o yw_X11_six ln_5_83 wi_X11_six ws_X11_six hX (by decide) 11 rfl hK0 (As := [.int ((z_I (z_sI (z_sI (z_sI e11 1116 a0 (z_U e11 (z_R G 1100 a0) (((z_I e11 1114 a0) + (4 : Int32))).toNatClampNeg)) 1117 a0 r18) 1118 a0 r20) 1114 a0) + (9 : Int32))]) rfl rfl (Nat.le_of_ble_eq_true rfl) (e_X11_six hK0 he21) dX11_layState_190 ?_
    refine pt_11_19 o hK0 ln_5_114 dX11_layState_193 ?_
    refine v_aload_n o dX11_layState_196 rfl 0 rfl ?_
    refine v_aload_n o dX11_layState_197 rfl 0 rfl ?_
    refine gt_11_0 o hK0 ln_5_95 (by rw [n14]; decide) dX11_layState_198 ?_
    refine v_aload_n o dX11_layState_201 rfl 0 rfl ?_
    refine gt_11_14 o hK0 ln_5_109 dX11_layState_202 ?_
    refine v_bipush o (15 : Int32) dX11_layState_205 (by decide) ?_
    refine v_iadd o dX11_layState_207 ?_
    obtain ⟨n23, n24, h⟩ := z_gA_of h
    refine v_iald o n23 n24 dX11_layState_208 ?_
    refine pt_11_20 o hK0 ln_5_115 dX11_layState_209 ?_
    refine v_aload_n o dX11_layState_212 rfl 0 rfl ?_
    refine v_aload_n o dX11_layState_213 rfl 0 rfl ?_
    refine v_aload_n o dX11_layState_214 rfl 0 rfl ?_
    refine gt_11_14 o hK0 ln_5_109 dX11_layState_215 ?_
    refine v_bipush o (16 : Int32) dX11_layState_218 (by decide) ?_
    refine v_iadd o dX11_layState_220 ?_
    refine v_iconst o (2 : Int32) dX11_layState_221 (by decide) ?_
    obtain ⟨r26, he25, h⟩ := z_bind h
    refine v_callV o yw_X11_wide ln_5_71 wi_X11_wide ws_X11_wide hX (by decide) 11 rfl hK0 (As := [.int ((z_I (z_sI (z_sJ (z_sI (z_sI (z_sI e11 1116 a0 (z_U e11 (z_R G 1100 a0) (((z_I e11 1114 a0) + (4 : Int32))).toNatClampNeg)) 1117 a0 r18) 1118 a0 r20) 1119 a0 r22) 1120 a0 (z_U (z_sJ (z_sI (z_sI (z_sI e11 1116 a0 (z_U e11 (z_R G 1100 a0) (((z_I e11 1114 a0) + (4 : Int32))).toNatClampNeg)) 1117 a0 r18) 1118 a0 r20) 1119 a0 r22) (z_R G 1100 a0) (((z_I (z_sJ (z_sI (z_sI (z_sI e11 1116 a0 (z_U e11 (z_R G 1100 a0) (((z_I e11 1114 a0) + (4 : Int32))).toNatClampNeg)) 1117 a0 r18) 1118 a0 r20) 1119 a0 r22) 1114 a0) + (15 : Int32))).toNatClampNeg)) 1114 a0) + (16 : Int32)), .int (2 : Int32)]) rfl rfl (Nat.le_of_ble_eq_true rfl) (e_X11_wide hK0 he25) dX11_layState_222 ?_
    refine pt_11_21 o hK0 ln_5_116 dX11_layState_225 ?_
    refine v_aload_n o dX11_layState_228 rfl 0 rfl ?_
    refine v_aload_n o dX11_layState_229 rfl 0 rfl ?_
    refine v_aload_n o dX11_layState_230 rfl 0 rfl ?_
    refine gt_11_14 o hK0 ln_5_109 dX11_layState_231 ?_
    refine v_bipush o (18 : Int32) dX11_layState_234 (by decide) ?_
    refine v_iadd o dX11_layState_236 ?_
    refine v_iconst o (2 : Int32) dX11_layState_237 (by decide) ?_
    obtain ⟨r28, he27, h⟩ := z_bind h
    refine v_callV o yw_X11_wide ln_5_71 wi_X11_wide ws_X11_wide hX (by decide) 11 rfl hK0 (As := [.int ((z_I (z_sI (z_sI (z_sJ (z_sI (z_sI (z_sI e11 1116 a0 (z_U e11 (z_R G 1100 a0) (((z_I e11 1114 a0) + (4 : Int32))).toNatClampNeg)) 1117 a0 r18) 1118 a0 r20) 1119 a0 r22) 1120 a0 (z_U (z_sJ (z_sI (z_sI (z_sI e11 1116 a0 (z_U e11 (z_R G 1100 a0) (((z_I e11 1114 a0) + (4 : Int32))).toNatClampNeg)) 1117 a0 r18) 1118 a0 r20) 1119 a0 r22) (z_R G 1100 a0) (((z_I (z_sJ (z_sI (z_sI (z_sI e11 1116 a0 (z_U e11 (z_R G 1100 a0) (((z_I e11 1114 a0) + (4 : Int32))).toNatClampNeg)) 1117 a0 r18) 1118 a0 r20) 1119 a0 r22) 1114 a0) + (15 : Int32))).toNatClampNeg)) 1121 a0 r26) 1114 a0) + (18 : Int32)), .int (2 : Int32)]) rfl rfl (Nat.le_of_ble_eq_true rfl) (e_X11_wide hK0 he27) dX11_layState_238 ?_
    refine pt_11_22 o hK0 ln_5_117 dX11_layState_241 ?_
    refine v_aload_n o dX11_layState_244 rfl 0 rfl ?_
    refine v_aload_n o dX11_layState_245 rfl 0 rfl ?_
    refine v_aload_n o dX11_layState_246 rfl 0 rfl ?_
    refine gt_11_14 o hK0 ln_5_109 dX11_layState_247 ?_
    refine v_bipush o (20 : Int32) dX11_layState_250 (by decide) ?_
    refine v_iadd o dX11_layState_252 ?_
    obtain ⟨r30, he29, h⟩ := z_bind h
    refine v_callV o yw_X11_six ln_5_83 wi_X11_six ws_X11_six hX (by decide) 11 rfl hK0 (As := [.int ((z_I (z_sI (z_sI (z_sI (z_sJ (z_sI (z_sI (z_sI e11 1116 a0 (z_U e11 (z_R G 1100 a0) (((z_I e11 1114 a0) + (4 : Int32))).toNatClampNeg)) 1117 a0 r18) 1118 a0 r20) 1119 a0 r22) 1120 a0 (z_U (z_sJ (z_sI (z_sI (z_sI e11 1116 a0 (z_U e11 (z_R G 1100 a0) (((z_I e11 1114 a0) + (4 : Int32))).toNatClampNeg)) 1117 a0 r18) 1118 a0 r20) 1119 a0 r22) (z_R G 1100 a0) (((z_I (z_sJ (z_sI (z_sI (z_sI e11 1116 a0 (z_U e11 (z_R G 1100 a0) (((z_I e11 1114 a0) + (4 : Int32))).toNatClampNeg)) 1117 a0 r18) 1118 a0 r20) 1119 a0 r22) 1114 a0) + (15 : Int32))).toNatClampNeg)) 1121 a0 r26) 1122 a0 r28) 1114 a0) + (20 : Int32))]) rfl rfl (Nat.le_of_ble_eq_true rfl) (e_X11_six hK0 he29) dX11_layState_253 ?_
    refine pt_11_23 o hK0 ln_5_118 dX11_layState_256 ?_
    have hr := z_some h
    subst hr
    exact v_return o dX11_layState_259
  · replace h := z_ip c13 h
    refine v_aload_n o dX11_layState_88 rfl 0 rfl ?_
    refine v_iconst o (0 : Int32) dX11_layState_89 (by decide) ?_
    refine pt_11_16 o hK0 ln_5_111 dX11_layState_90 ?_
    refine v_aload_n o dX11_layState_93 rfl 0 rfl ?_
    refine v_iconst o (1 : Int32) dX11_layState_94 (by decide) ?_
    refine pt_11_17 o hK0 ln_5_112 dX11_layState_95 ?_
    refine v_aload_n o dX11_layState_98 rfl 0 rfl ?_
    refine v_aload_n o dX11_layState_99 rfl 0 rfl ?_
    refine gt_11_1 o hK0 ln_5_96 dX11_layState_100 ?_
    refine pt_11_18 o hK0 ln_5_113 dX11_layState_103 ?_
    refine v_aload_n o dX11_layState_106 rfl 0 rfl ?_
    refine v_aload_n o dX11_layState_107 rfl 0 rfl ?_
    refine gt_11_2 o hK0 ln_5_97 dX11_layState_108 ?_
    refine pt_11_19 o hK0 ln_5_114 dX11_layState_111 ?_
    refine v_aload_n o dX11_layState_114 rfl 0 rfl ?_
    refine v_iconst o (0 : Int32) dX11_layState_115 (by decide) ?_
    refine pt_11_20 o hK0 ln_5_115 dX11_layState_116 ?_
    refine v_aload_n o dX11_layState_119 rfl 0 rfl ?_
    refine v_iconst o (0 : Int32) dX11_layState_120 (by decide) ?_
    refine pt_11_21 o hK0 ln_5_116 dX11_layState_121 ?_
    refine v_aload_n o dX11_layState_124 rfl 0 rfl ?_
    refine v_iconst o (0 : Int32) dX11_layState_125 (by decide) ?_
    refine pt_11_22 o hK0 ln_5_117 dX11_layState_126 ?_
    refine v_aload_n o dX11_layState_129 rfl 0 rfl ?_
    refine v_lconst o (0 : Int64) dX11_layState_130 (by decide) ?_
    refine pt_11_23 o hK0 ln_5_118 dX11_layState_131 ?_
    have hr := z_some h
    subst hr
    exact v_return o dX11_layState_134
theorem e_X11_layState {q : z_Q} {l : Launch} {G : z_G} {D : z_D} {a0 : Nat}  {D1 : z_D} (hK0 : z_K G a0 = 111) (h : f_X11_layState G D a0 = some D1) : z_E q l yX11_layState cX11_layState 3 none 3 0 0 [.ref (z_w q a0)] G D none G D1 :=
  z_E.of (by decide) (Nat.le_of_ble_eq_true rfl) (fun X hX _ o => b_X11_layState o hX hK0 h)
def p_X11_put_5 (q : z_Q) (X : z_X) (Q : State → Prop) (G : z_G) (a0 : Nat) (a1 : Int64) : (z_D × Int32) → Prop := (fun v => z_V q X 5 Q 0 0 G v.1 5 [(0, .ref (z_w q a0)), (1, .long a1), (4, .int v.2)] [])
def x_X11_put_5 (q : z_Q) (X : z_X) (Q : State → Prop) (G : z_G) (a0 : Nat) (a1 : Int64) : z_D → Prop := (fun v => z_V q X 5 Q 0 0 G v 47 [] [])
def k_X11_put_5 (q : z_Q) (X : z_X) (Q : State → Prop) (G : z_G) (a0 : Nat) (a1 : Int64) : (z_D × Int32) ⊕ z_D → Prop := Sum.elim (p_X11_put_5 q X Q G a0 a1) (x_X11_put_5 q X Q G a0 a1)
def c_X11_put_5 (G : z_G) (D : z_D) (a0 : Nat) (a1 : Int64) (a4 : Int32) : Option ((z_D × Int32) ⊕ z_D) :=
  (if a4 < (0 : Int32) then (some (.inr D)) else (z_gK G 1 (z_R G 1113 a0) (z_gA G 1 (z_R G 1113 a0) (z_I D 1124 a0) ((some (.inl ((z_sI (z_sU D (z_R G 1113 a0) ((z_I D 1124 a0)).toNatClampNeg (((a1 >>> ((((8 : Int32) * a4)).toInt64 &&& 63))).toInt32 &&& (255 : Int32))) 1124 a0 ((z_I (z_sU D (z_R G 1113 a0) ((z_I D 1124 a0)).toNatClampNeg (((a1 >>> ((((8 : Int32) * a4)).toInt64 &&& 63))).toInt32 &&& (255 : Int32))) 1124 a0) + (1 : Int32))), (a4 + (-1 : Int32)))))))))
set_option maxRecDepth 100000 in
set_option maxHeartbeats 4000000 in
theorem tc_X11_put_5 {q : z_Q} {X : z_X} {G : z_G} {D : z_D} {Q : State → Prop} {a0 : Nat} {a1 : Int64} {a4 : Int32} (o : z_O q X cX11_put 5 "FlashTrustModel" "put" none) (hX : x_R X = z_rm 0 0 0) (hK0 : z_K G a0 = 111) {ρ : (z_D × Int32) ⊕ z_D} (h : c_X11_put_5 G D a0 a1 a4 = some ρ) (hk : k_X11_put_5 q X Q G a0 a1 ρ) : z_V q X 5 Q 0 0 G D 5 [(0, .ref (z_w q a0)), (1, .long a1), (4, .int a4)] [] := by
  unfold c_X11_put_5 at h
  refine v_iload o dX11_put_5 2 rfl ?_
  refine v_if_lt o 47 dX11_put_7 (by decide) (fun c1 => ?_) (fun c1 => ?_)
  · replace h := z_ip c1 h
    obtain rfl := z_some h
    refine v_sub [] rfl ?_
    exact hk
  · replace h := z_in c1 h
    refine v_aload_n o dX11_put_10 rfl 0 rfl ?_
    obtain ⟨n2, h⟩ := z_gK_of h
    refine gt_11_13 o hK0 ln_5_108 (by rw [n2]; decide) dX11_put_11 ?_
    refine v_aload_n o dX11_put_14 rfl 0 rfl ?_
    refine gt_11_24 o hK0 ln_5_119 dX11_put_15 ?_
    refine v_lload_n o dX11_put_18 rfl 1 rfl ?_
    refine v_bipush o (8 : Int32) dX11_put_19 (by decide) ?_
    refine v_iload o dX11_put_21 2 rfl ?_
    refine v_imul o dX11_put_23 ?_
    refine v_lshr o dX11_put_24 ?_
    refine v_l2i o dX11_put_25 ?_
    refine v_sipush o (255 : Int32) dX11_put_26 (by decide) ?_
    refine v_iand o dX11_put_29 ?_
    obtain ⟨n3, n4, h⟩ := z_gA_of h
    refine v_iast o n3 n4 dX11_put_30 ?_
    refine v_aload_n o dX11_put_31 rfl 0 rfl ?_
    refine v_dup o dX11_put_32 rfl ?_
    refine gt_11_24 o hK0 ln_5_119 dX11_put_33 ?_
    refine v_iconst o (1 : Int32) dX11_put_36 (by decide) ?_
    refine v_iadd o dX11_put_37 ?_
    refine pt_11_24 o hK0 ln_5_119 dX11_put_38 ?_
    refine v_iinc o (a4 + (-1 : Int32)) [(4, .int (a4 + (-1 : Int32))), (0, .ref (z_w q a0)), (1, .long a1)] dX11_put_41 2 rfl rfl (by decide) rfl ?_
    refine v_goto o 5 dX11_put_44 (by decide) ?_
    obtain rfl := z_some h
    refine v_sub [1, 2, 0] rfl ?_
    exact hk
def f_X11_put (G : z_G) (D : z_D) (a0 : Nat) (a1 : Int64) (a3 : Int32) : Option (z_D) :=
  ((z_loop (fun v => c_X11_put_5 G v.1 a0 a1 v.2) 4000 (D, (a3 - (1 : Int32)))).bind (fun e5 => (some e5)))
set_option maxRecDepth 100000 in
set_option maxHeartbeats 4000000 in
theorem b_X11_put {q : z_Q} {X : z_X} {G : z_G} {D : z_D} {a0 : Nat} {a1 : Int64} {a3 : Int32}  {D1 : z_D} (o : z_O q X cX11_put 5 "FlashTrustModel" "put" none) (hX : x_R X = z_rm 0 0 0) (hK0 : z_K G a0 = 111) (h : f_X11_put G D a0 a1 a3 = some D1) : z_V q X 5 (z_F q X none G D1 0 0) 0 0 G D 0 [(0, .ref (z_w q a0)), (1, .long a1), (3, .int a3)] [] := by
  unfold f_X11_put at h
  refine v_iload_n o dX11_put_0 rfl 2 rfl ?_
  refine v_iconst o (1 : Int32) dX11_put_1 (by decide) ?_
  refine v_isub o dX11_put_2 ?_
  refine v_istore o [(4, .int (a3 - (1 : Int32))), (0, .ref (z_w q a0)), (1, .long a1), (3, .int a3)] dX11_put_3 (by decide) rfl ?_
  refine v_sub [1, 2, 0] rfl ?_
  obtain ⟨e5, he6, h⟩ := z_bind h
  refine z_loopV (P := p_X11_put_5 q X _ G a0 a1) (E := x_X11_put_5 q X _ G a0 a1) (fun v ρ hb hk => tc_X11_put_5 (D := v.1) (a0 := a0) (a1 := a1) (a4 := v.2) o hX hK0 hb hk) 4000 _ e5 he6 ?_
  show z_V q X 5 _ _ _ G e5 47 [] []
  have hr := z_some h
  subst hr
  exact v_return o dX11_put_47
theorem e_X11_put {q : z_Q} {l : Launch} {G : z_G} {D : z_D} {a0 : Nat} {a1 : Int64} {a3 : Int32}  {D1 : z_D} (hK0 : z_K G a0 = 111) (h : f_X11_put G D a0 a1 a3 = some D1) : z_E q l yX11_put cX11_put 5 none 0 0 0 [.ref (z_w q a0), .long a1, .int a3] G D none G D1 :=
  z_E.of (by decide) (Nat.le_of_ble_eq_true rfl) (fun X hX _ o => b_X11_put o hX hK0 h)
def p_X11_layPage_130 (q : z_Q) (X : z_X) (Q : State → Prop) (G : z_G) (a0 : Nat) : (z_D × Int32) → Prop := (fun v => z_V q X 3 Q 0 0 G v.1 130 [(0, .ref (z_w q a0)), (2, .int v.2)] [])
def x_X11_layPage_130 (q : z_Q) (X : z_X) (Q : State → Prop) (G : z_G) (a0 : Nat) : z_D → Prop := (fun v => z_V q X 3 Q 0 0 G v 152 [(0, .ref (z_w q a0))] [])
def k_X11_layPage_130 (q : z_Q) (X : z_X) (Q : State → Prop) (G : z_G) (a0 : Nat) : (z_D × Int32) ⊕ z_D → Prop := Sum.elim (p_X11_layPage_130 q X Q G a0) (x_X11_layPage_130 q X Q G a0)
def c_X11_layPage_130 (G : z_G) (D : z_D) (a0 : Nat) (a2 : Int32) : Option ((z_D × Int32) ⊕ z_D) :=
  (if (28 : Int32) ≤ a2 then (some (.inr D)) else (z_gK G 1 (z_R G 1113 a0) (z_gA G 1 (z_R G 1113 a0) a2 ((f_X11_digestByte G D a0 (z_U D (z_R G 1113 a0) (a2).toNatClampNeg)).bind (fun D34 => ((some (.inl (D34, (a2 + (1 : Int32)))))))))))
set_option maxRecDepth 100000 in
set_option maxHeartbeats 4000000 in
theorem tc_X11_layPage_130 {q : z_Q} {X : z_X} {G : z_G} {D : z_D} {Q : State → Prop} {a0 : Nat} {a2 : Int32} (o : z_O q X cX11_layPage 3 "FlashTrustModel" "layPage" none) (hX : x_R X = z_rm 1 0 0) (hK0 : z_K G a0 = 111) {ρ : (z_D × Int32) ⊕ z_D} (h : c_X11_layPage_130 G D a0 a2 = some ρ) (hk : k_X11_layPage_130 q X Q G a0 ρ) : z_V q X 3 Q 0 0 G D 130 [(0, .ref (z_w q a0)), (2, .int a2)] [] := by
  unfold c_X11_layPage_130 at h
  refine v_iload_n o dX11_layPage_130 rfl 1 rfl ?_
  refine v_bipush o (28 : Int32) dX11_layPage_131 (by decide) ?_
  refine v_icmp_ge o 152 dX11_layPage_133 (by decide) (fun c29 => ?_) (fun c29 => ?_)
  · replace h := z_ip c29 h
    obtain rfl := z_some h
    refine v_sub [0] rfl ?_
    exact hk
  · replace h := z_in c29 h
    refine v_aload_n o dX11_layPage_136 rfl 0 rfl ?_
    refine v_aload_n o dX11_layPage_137 rfl 0 rfl ?_
    obtain ⟨n30, h⟩ := z_gK_of h
    refine gt_11_13 o hK0 ln_5_108 (by rw [n30]; decide) dX11_layPage_138 ?_
    refine v_iload_n o dX11_layPage_141 rfl 1 rfl ?_
    obtain ⟨n31, n32, h⟩ := z_gA_of h
    refine v_iald o n31 n32 dX11_layPage_142 ?_
    obtain ⟨D34, he33, h⟩ := z_bind h
    refine v_callV o yw_X11_digestByte ln_5_57 wi_X11_digestByte ws_X11_digestByte hX (by decide) 11 rfl hK0 (As := [.int (z_U D (z_R G 1113 a0) (a2).toNatClampNeg)]) rfl rfl (Nat.le_of_ble_eq_true rfl) (e_X11_digestByte hK0 he33) dX11_layPage_143 ?_
    refine v_iinc o (a2 + (1 : Int32)) [(2, .int (a2 + (1 : Int32))), (0, .ref (z_w q a0))] dX11_layPage_146 1 rfl rfl (by decide) rfl ?_
    refine v_goto o 130 dX11_layPage_149 (by decide) ?_
    obtain rfl := z_some h
    refine v_sub [1, 0] rfl ?_
    exact hk
def j_X11_layPage_113 (G : z_G) (D : z_D) (a0 : Nat) (s0 : Int64) (s1 : Nat) : Option (z_D) :=
  z_gK G 111 s1 ((f_X11_put G D s1 s0 (6 : Int32)).bind (fun D24 => ((f_X11_put G D24 a0 (0 : Int64) (2 : Int32)).bind (fun D26 => ((f_X11_digestBegin G D26 a0).bind (fun D28 => (((z_loop (fun v => c_X11_layPage_130 G v.1 a0 v.2) 4000 (D28, (0 : Int32))).bind (fun e35 => (f_X11_checkNow G e35 a0).bind (fun r38 => ((f_X11_put G e35 a0 ((r38).toInt64) (4 : Int32)).bind (fun D40 => ((some D40))))))))))))))
set_option maxRecDepth 100000 in
set_option maxHeartbeats 4000000 in
theorem tj_X11_layPage_113 {q : z_Q} {X : z_X} {G : z_G} {D : z_D} {a0 : Nat} {s0 : Int64} {s1 : Nat}  {D1 : z_D} (o : z_O q X cX11_layPage 3 "FlashTrustModel" "layPage" none) (hX : x_R X = z_rm 1 0 0) (hK0 : z_K G a0 = 111) (h : j_X11_layPage_113 G D a0 s0 s1 = some D1) : z_V q X 3 (z_F q X none G D1 0 0) 0 0 G D 113 [(0, .ref (z_w q a0))] [.long s0, .ref (z_w q s1)] := by
  unfold j_X11_layPage_113 at h
  refine v_bipush o (6 : Int32) dX11_layPage_113 (by decide) ?_
  obtain ⟨n22, h⟩ := z_gK_of h
  obtain ⟨D24, he23, h⟩ := z_bind h
  refine v_callV o yw_X11_put ln_5_91 wi_X11_put ws_X11_put hX (by decide) 11 rfl n22 (As := [.long s0, .int (6 : Int32)]) rfl rfl (Nat.le_of_ble_eq_true rfl) (e_X11_put n22 he23) dX11_layPage_115 ?_
  refine v_aload_n o dX11_layPage_118 rfl 0 rfl ?_
  refine v_lconst o (0 : Int64) dX11_layPage_119 (by decide) ?_
  refine v_iconst o (2 : Int32) dX11_layPage_120 (by decide) ?_
  obtain ⟨D26, he25, h⟩ := z_bind h
  refine v_callV o yw_X11_put ln_5_91 wi_X11_put ws_X11_put hX (by decide) 11 rfl hK0 (As := [.long (0 : Int64), .int (2 : Int32)]) rfl rfl (Nat.le_of_ble_eq_true rfl) (e_X11_put hK0 he25) dX11_layPage_121 ?_
  refine v_aload_n o dX11_layPage_124 rfl 0 rfl ?_
  obtain ⟨D28, he27, h⟩ := z_bind h
  refine v_callV o yw_X11_digestBegin ln_5_52 wi_X11_digestBegin ws_X11_digestBegin hX (by decide) 11 rfl hK0 (As := []) rfl rfl (Nat.le_of_ble_eq_true rfl) (e_X11_digestBegin hK0 he27) dX11_layPage_125 ?_
  refine v_iconst o (0 : Int32) dX11_layPage_128 (by decide) ?_
  refine v_istore_n o [(2, .int (0 : Int32)), (0, .ref (z_w q a0))] dX11_layPage_129 rfl (by decide) rfl ?_
  refine v_sub [1, 0] rfl ?_
  obtain ⟨e35, he36, h⟩ := z_bind h
  refine z_loopV (P := p_X11_layPage_130 q X _ G a0) (E := x_X11_layPage_130 q X _ G a0) (fun v ρ hb hk => tc_X11_layPage_130 (D := v.1) (a0 := a0) (a2 := v.2) o hX hK0 hb hk) 4000 _ e35 he36 ?_
  show z_V q X 3 _ _ _ G e35 152 [(0, .ref (z_w q a0))] []
  refine v_aload_n o dX11_layPage_152 rfl 0 rfl ?_
  refine v_aload_n o dX11_layPage_153 rfl 0 rfl ?_
  obtain ⟨r38, he37, h⟩ := z_bind h
  refine v_callV o yw_X11_checkNow ln_5_79 wi_X11_checkNow ws_X11_checkNow hX (by decide) 11 rfl hK0 (As := []) rfl rfl (Nat.le_of_ble_eq_true rfl) (e_X11_checkNow hK0 he37) dX11_layPage_154 ?_
  refine v_i2l o dX11_layPage_157 ?_
  refine v_iconst o (4 : Int32) dX11_layPage_158 (by decide) ?_
  obtain ⟨D40, he39, h⟩ := z_bind h
  refine v_callV o yw_X11_put ln_5_91 wi_X11_put ws_X11_put hX (by decide) 11 rfl hK0 (As := [.long (r38).toInt64, .int (4 : Int32)]) rfl rfl (Nat.le_of_ble_eq_true rfl) (e_X11_put hK0 he39) dX11_layPage_159 ?_
  have hr := z_some h
  subst hr
  exact v_return o dX11_layPage_162
def j_X11_layPage_96 (G : z_G) (D : z_D) (a0 : Nat) (a1 : Int32) (s0 : Int64) (s1 : Nat) : Option (z_D) :=
  z_gK G 111 s1 ((f_X11_put G D s1 s0 (2 : Int32)).bind (fun D20 => ((if a1 = (0 : Int32) then ((j_X11_layPage_113 G D20  a0 (0 : Int64) a0)) else ((j_X11_layPage_113 G D20  a0 (z_J D20 1123 a0) a0))))))
set_option maxRecDepth 100000 in
set_option maxHeartbeats 4000000 in
theorem tj_X11_layPage_96 {q : z_Q} {X : z_X} {G : z_G} {D : z_D} {a0 : Nat} {a1 : Int32} {s0 : Int64} {s1 : Nat}  {D1 : z_D} (o : z_O q X cX11_layPage 3 "FlashTrustModel" "layPage" none) (hX : x_R X = z_rm 1 0 0) (hK0 : z_K G a0 = 111) (h : j_X11_layPage_96 G D a0 a1 s0 s1 = some D1) : z_V q X 3 (z_F q X none G D1 0 0) 0 0 G D 96 [(0, .ref (z_w q a0)), (1, .int a1)] [.long s0, .ref (z_w q s1)] := by
  unfold j_X11_layPage_96 at h
  refine v_iconst o (2 : Int32) dX11_layPage_96 (by decide) ?_
  obtain ⟨n18, h⟩ := z_gK_of h
  obtain ⟨D20, he19, h⟩ := z_bind h
  refine v_callV o yw_X11_put ln_5_91 wi_X11_put ws_X11_put hX (by decide) 11 rfl n18 (As := [.long s0, .int (2 : Int32)]) rfl rfl (Nat.le_of_ble_eq_true rfl) (e_X11_put n18 he19) dX11_layPage_97 ?_
  refine v_aload_n o dX11_layPage_100 rfl 0 rfl ?_
  refine v_iload_n o dX11_layPage_101 rfl 1 rfl ?_
  refine v_if_ne o 109 dX11_layPage_102 (by decide) (fun c21 => ?_) (fun c21 => ?_)
  · replace h := z_in c21 h
    refine v_aload_n o dX11_layPage_109 rfl 0 rfl ?_
    refine gt_11_23 o hK0 ln_5_118 dX11_layPage_110 ?_
    refine v_sub [0] rfl ?_
    exact tj_X11_layPage_113 o hX hK0 h
  · replace h := z_ip c21 h
    refine v_lconst o (0 : Int64) dX11_layPage_105 (by decide) ?_
    refine v_goto o 113 dX11_layPage_106 (by decide) ?_
    refine v_sub [0] rfl ?_
    exact tj_X11_layPage_113 o hX hK0 h
def j_X11_layPage_78 (G : z_G) (D : z_D) (a0 : Nat) (a1 : Int32) (s0 : Int64) (s1 : Nat) : Option (z_D) :=
  z_gK G 111 s1 ((f_X11_put G D s1 s0 (2 : Int32)).bind (fun D16 => ((if a1 = (0 : Int32) then ((j_X11_layPage_96 G D16  a0 a1 (0 : Int64) a0)) else ((j_X11_layPage_96 G D16  a0 a1 (((z_I D16 1122 a0)).toInt64) a0))))))
set_option maxRecDepth 100000 in
set_option maxHeartbeats 4000000 in
theorem tj_X11_layPage_78 {q : z_Q} {X : z_X} {G : z_G} {D : z_D} {a0 : Nat} {a1 : Int32} {s0 : Int64} {s1 : Nat}  {D1 : z_D} (o : z_O q X cX11_layPage 3 "FlashTrustModel" "layPage" none) (hX : x_R X = z_rm 1 0 0) (hK0 : z_K G a0 = 111) (h : j_X11_layPage_78 G D a0 a1 s0 s1 = some D1) : z_V q X 3 (z_F q X none G D1 0 0) 0 0 G D 78 [(0, .ref (z_w q a0)), (1, .int a1)] [.long s0, .ref (z_w q s1)] := by
  unfold j_X11_layPage_78 at h
  refine v_iconst o (2 : Int32) dX11_layPage_78 (by decide) ?_
  obtain ⟨n14, h⟩ := z_gK_of h
  obtain ⟨D16, he15, h⟩ := z_bind h
  refine v_callV o yw_X11_put ln_5_91 wi_X11_put ws_X11_put hX (by decide) 11 rfl n14 (As := [.long s0, .int (2 : Int32)]) rfl rfl (Nat.le_of_ble_eq_true rfl) (e_X11_put n14 he15) dX11_layPage_79 ?_
  refine v_aload_n o dX11_layPage_82 rfl 0 rfl ?_
  refine v_iload_n o dX11_layPage_83 rfl 1 rfl ?_
  refine v_if_ne o 91 dX11_layPage_84 (by decide) (fun c17 => ?_) (fun c17 => ?_)
  · replace h := z_in c17 h
    refine v_aload_n o dX11_layPage_91 rfl 0 rfl ?_
    refine gt_11_22 o hK0 ln_5_117 dX11_layPage_92 ?_
    refine v_i2l o dX11_layPage_95 ?_
    exact tj_X11_layPage_96 o hX hK0 h
  · replace h := z_ip c17 h
    refine v_lconst o (0 : Int64) dX11_layPage_87 (by decide) ?_
    refine v_goto o 96 dX11_layPage_88 (by decide) ?_
    exact tj_X11_layPage_96 o hX hK0 h
def f_X11_layPage (G : z_G) (D : z_D) (a0 : Nat) (a1 : Int32) : Option (z_D) :=
  (f_X11_put G (z_sI D 1124 a0 (0 : Int32)) a0 ((((z_I (z_sI D 1124 a0 (0 : Int32)) 1115 a0) + (1 : Int32))).toInt64) (4 : Int32)).bind (fun D2 => ((f_X11_put G D2 a0 (((z_I D2 1116 a0)).toInt64) (1 : Int32)).bind (fun D4 => ((f_X11_put G D4 a0 (((z_I D4 1117 a0)).toInt64) (2 : Int32)).bind (fun D6 => ((f_X11_put G D6 a0 (((z_I D6 1118 a0)).toInt64) (2 : Int32)).bind (fun D8 => ((f_X11_put G D8 a0 (z_J D8 1119 a0) (6 : Int32)).bind (fun D10 => ((f_X11_put G D10 a0 ((a1).toInt64) (1 : Int32)).bind (fun D12 => ((if a1 = (0 : Int32) then ((j_X11_layPage_78 G D12  a0 a1 (0 : Int64) a0)) else ((j_X11_layPage_78 G D12  a0 a1 (((z_I D12 1121 a0)).toInt64) a0)))))))))))))))
set_option maxRecDepth 100000 in
set_option maxHeartbeats 4000000 in
theorem b_X11_layPage {q : z_Q} {X : z_X} {G : z_G} {D : z_D} {a0 : Nat} {a1 : Int32}  {D1 : z_D} (o : z_O q X cX11_layPage 3 "FlashTrustModel" "layPage" none) (hX : x_R X = z_rm 1 0 0) (hK0 : z_K G a0 = 111) (h : f_X11_layPage G D a0 a1 = some D1) : z_V q X 3 (z_F q X none G D1 0 0) 0 0 G D 0 [(0, .ref (z_w q a0)), (1, .int a1)] [] := by
  unfold f_X11_layPage at h
  refine v_aload_n o dX11_layPage_0 rfl 0 rfl ?_
  refine v_iconst o (0 : Int32) dX11_layPage_1 (by decide) ?_
  refine pt_11_24 o hK0 ln_5_119 dX11_layPage_2 ?_
  refine v_aload_n o dX11_layPage_5 rfl 0 rfl ?_
  refine v_aload_n o dX11_layPage_6 rfl 0 rfl ?_
  refine gt_11_15 o hK0 ln_5_110 dX11_layPage_7 ?_
  refine v_iconst o (1 : Int32) dX11_layPage_10 (by decide) ?_
  refine v_iadd o dX11_layPage_11 ?_
  refine v_i2l o dX11_layPage_12 ?_
  refine v_iconst o (4 : Int32) dX11_layPage_13 (by decide) ?_
  obtain ⟨D2, he1, h⟩ := z_bind h
  refine v_callV o yw_X11_put ln_5_91 wi_X11_put ws_X11_put hX (by decide) 11 rfl hK0 (As := [.long (((z_I (z_sI D 1124 a0 (0 : Int32)) 1115 a0) + (1 : Int32))).toInt64, .int (4 : Int32)]) rfl rfl (Nat.le_of_ble_eq_true rfl) (e_X11_put hK0 he1) dX11_layPage_14 ?_
  refine v_aload_n o dX11_layPage_17 rfl 0 rfl ?_
  refine v_aload_n o dX11_layPage_18 rfl 0 rfl ?_
  refine gt_11_16 o hK0 ln_5_111 dX11_layPage_19 ?_
  refine v_i2l o dX11_layPage_22 ?_
  refine v_iconst o (1 : Int32) dX11_layPage_23 (by decide) ?_
  obtain ⟨D4, he3, h⟩ := z_bind h
  refine v_callV o yw_X11_put ln_5_91 wi_X11_put ws_X11_put hX (by decide) 11 rfl hK0 (As := [.long ((z_I D2 1116 a0)).toInt64, .int (1 : Int32)]) rfl rfl (Nat.le_of_ble_eq_true rfl) (e_X11_put hK0 he3) dX11_layPage_24 ?_
  refine v_aload_n o dX11_layPage_27 rfl 0 rfl ?_
  refine v_aload_n o dX11_layPage_28 rfl 0 rfl ?_
  refine gt_11_17 o hK0 ln_5_112 dX11_layPage_29 ?_
  refine v_i2l o dX11_layPage_32 ?_
  refine v_iconst o (2 : Int32) dX11_layPage_33 (by decide) ?_
  obtain ⟨D6, he5, h⟩ := z_bind h
  refine v_callV o yw_X11_put ln_5_91 wi_X11_put ws_X11_put hX (by decide) 11 rfl hK0 (As := [.long ((z_I D4 1117 a0)).toInt64, .int (2 : Int32)]) rfl rfl (Nat.le_of_ble_eq_true rfl) (e_X11_put hK0 he5) dX11_layPage_34 ?_
  refine v_aload_n o dX11_layPage_37 rfl 0 rfl ?_
  refine v_aload_n o dX11_layPage_38 rfl 0 rfl ?_
  refine gt_11_18 o hK0 ln_5_113 dX11_layPage_39 ?_
  refine v_i2l o dX11_layPage_42 ?_
  refine v_iconst o (2 : Int32) dX11_layPage_43 (by decide) ?_
  obtain ⟨D8, he7, h⟩ := z_bind h
  refine v_callV o yw_X11_put ln_5_91 wi_X11_put ws_X11_put hX (by decide) 11 rfl hK0 (As := [.long ((z_I D6 1118 a0)).toInt64, .int (2 : Int32)]) rfl rfl (Nat.le_of_ble_eq_true rfl) (e_X11_put hK0 he7) dX11_layPage_44 ?_
  refine v_aload_n o dX11_layPage_47 rfl 0 rfl ?_
  refine v_aload_n o dX11_layPage_48 rfl 0 rfl ?_
  refine gt_11_19 o hK0 ln_5_114 dX11_layPage_49 ?_
  refine v_bipush o (6 : Int32) dX11_layPage_52 (by decide) ?_
  obtain ⟨D10, he9, h⟩ := z_bind h
  refine v_callV o yw_X11_put ln_5_91 wi_X11_put ws_X11_put hX (by decide) 11 rfl hK0 (As := [.long (z_J D8 1119 a0), .int (6 : Int32)]) rfl rfl (Nat.le_of_ble_eq_true rfl) (e_X11_put hK0 he9) dX11_layPage_54 ?_
  refine v_aload_n o dX11_layPage_57 rfl 0 rfl ?_
  refine v_iload_n o dX11_layPage_58 rfl 1 rfl ?_
  refine v_i2l o dX11_layPage_59 ?_
  refine v_iconst o (1 : Int32) dX11_layPage_60 (by decide) ?_
  obtain ⟨D12, he11, h⟩ := z_bind h
  refine v_callV o yw_X11_put ln_5_91 wi_X11_put ws_X11_put hX (by decide) 11 rfl hK0 (As := [.long (a1).toInt64, .int (1 : Int32)]) rfl rfl (Nat.le_of_ble_eq_true rfl) (e_X11_put hK0 he11) dX11_layPage_61 ?_
  refine v_aload_n o dX11_layPage_64 rfl 0 rfl ?_
  refine v_iload_n o dX11_layPage_65 rfl 1 rfl ?_
  refine v_if_ne o 73 dX11_layPage_66 (by decide) (fun c13 => ?_) (fun c13 => ?_)
  · replace h := z_in c13 h
    refine v_aload_n o dX11_layPage_73 rfl 0 rfl ?_
    refine gt_11_21 o hK0 ln_5_116 dX11_layPage_74 ?_
    refine v_i2l o dX11_layPage_77 ?_
    exact tj_X11_layPage_78 o hX hK0 h
  · replace h := z_ip c13 h
    refine v_lconst o (0 : Int64) dX11_layPage_69 (by decide) ?_
    refine v_goto o 78 dX11_layPage_70 (by decide) ?_
    exact tj_X11_layPage_78 o hX hK0 h
theorem e_X11_layPage {q : z_Q} {l : Launch} {G : z_G} {D : z_D} {a0 : Nat} {a1 : Int32}  {D1 : z_D} (hK0 : z_K G a0 = 111) (h : f_X11_layPage G D a0 a1 = some D1) : z_E q l yX11_layPage cX11_layPage 3 none 1 0 0 [.ref (z_w q a0), .int a1] G D none G D1 :=
  z_E.of (by decide) (Nat.le_of_ble_eq_true rfl) (fun X hX _ o => b_X11_layPage o hX hK0 h)
def p_X11_isErased_4 (q : z_Q) (X : z_X) (Q : State → Prop) (G : z_G) (D : z_D) (a0 : Nat) (a1 : Int32) : (Int32 × Int32) → Prop := (fun v => z_V q X 4 Q 0 0 G D 4 [(0, .ref (z_w q a0)), (1, .int a1), (2, .int v.1), (3, .int v.2)] [])
def x_X11_isErased_4 (q : z_Q) (X : z_X) (Q : State → Prop) (G : z_G) (D : z_D) (a0 : Nat) (a1 : Int32) : Int32 → Prop := (fun v => z_V q X 4 Q 0 0 G D 40 [(2, .int v)] [])
def k_X11_isErased_4 (q : z_Q) (X : z_X) (Q : State → Prop) (G : z_G) (D : z_D) (a0 : Nat) (a1 : Int32) : (Int32 × Int32) ⊕ Int32 → Prop := Sum.elim (p_X11_isErased_4 q X Q G D a0 a1) (x_X11_isErased_4 q X Q G D a0 a1)
def c_X11_isErased_4 (G : z_G) (D : z_D) (a0 : Nat) (a1 : Int32) (a2 : Int32) (a3 : Int32) : Option ((Int32 × Int32) ⊕ Int32) :=
  (if (32 : Int32) ≤ a3 then (some (.inr a2)) else ((if a2 = (0 : Int32) then ((some (.inl ((0 : Int32), (a3 + (1 : Int32)))))) else (z_gK G 1 (z_R G 1100 a0) (z_gA G 1 (z_R G 1100 a0) (a1 + a3) ((if (z_U D (z_R G 1100 a0) ((a1 + a3)).toNatClampNeg) = (255 : Int32) then (((some (.inl ((1 : Int32), (a3 + (1 : Int32))))))) else ((some (.inl ((0 : Int32), (a3 + (1 : Int32)))))))))))))
set_option maxRecDepth 100000 in
set_option maxHeartbeats 4000000 in
theorem tc_X11_isErased_4 {q : z_Q} {X : z_X} {G : z_G} {D : z_D} {Q : State → Prop} {a0 : Nat} {a1 : Int32} {a2 : Int32} {a3 : Int32} (o : z_O q X cX11_isErased 4 "FlashTrustModel" "isErased" (some .boolean)) (hX : x_R X = z_rm 0 0 0) (hK0 : z_K G a0 = 111) {ρ : (Int32 × Int32) ⊕ Int32} (h : c_X11_isErased_4 G D a0 a1 a2 a3 = some ρ) (hk : k_X11_isErased_4 q X Q G D a0 a1 ρ) : z_V q X 4 Q 0 0 G D 4 [(0, .ref (z_w q a0)), (1, .int a1), (2, .int a2), (3, .int a3)] [] := by
  unfold c_X11_isErased_4 at h
  refine v_iload_n o dX11_isErased_4 rfl 3 rfl ?_
  refine v_bipush o (32 : Int32) dX11_isErased_5 (by decide) ?_
  refine v_icmp_ge o 40 dX11_isErased_7 (by decide) (fun c1 => ?_) (fun c1 => ?_)
  · replace h := z_ip c1 h
    obtain rfl := z_some h
    refine v_sub [2] rfl ?_
    exact hk
  · replace h := z_in c1 h
    refine v_iload_n o dX11_isErased_10 rfl 2 rfl ?_
    refine v_if_eq o 32 dX11_isErased_11 (by decide) (fun c2 => ?_) (fun c2 => ?_)
    · replace h := z_ip c2 h
      refine v_iconst o (0 : Int32) dX11_isErased_32 (by decide) ?_
      refine v_istore_n o [(2, .int (0 : Int32)), (0, .ref (z_w q a0)), (1, .int a1), (3, .int a3)] dX11_isErased_33 rfl (by decide) rfl ?_
      refine v_iinc o (a3 + (1 : Int32)) [(3, .int (a3 + (1 : Int32))), (2, .int (0 : Int32)), (0, .ref (z_w q a0)), (1, .int a1)] dX11_isErased_34 3 rfl rfl (by decide) rfl ?_
      refine v_goto o 4 dX11_isErased_37 (by decide) ?_
      obtain rfl := z_some h
      refine v_sub [2, 3, 1, 0] rfl ?_
      exact hk
    · replace h := z_in c2 h
      refine v_aload_n o dX11_isErased_14 rfl 0 rfl ?_
      obtain ⟨n3, h⟩ := z_gK_of h
      refine gt_11_0 o hK0 ln_5_95 (by rw [n3]; decide) dX11_isErased_15 ?_
      refine v_iload_n o dX11_isErased_18 rfl 1 rfl ?_
      refine v_iload_n o dX11_isErased_19 rfl 3 rfl ?_
      refine v_iadd o dX11_isErased_20 ?_
      obtain ⟨n4, n5, h⟩ := z_gA_of h
      refine v_iald o n4 n5 dX11_isErased_21 ?_
      refine v_sipush o (255 : Int32) dX11_isErased_22 (by decide) ?_
      refine v_icmp_ne o 32 dX11_isErased_25 (by decide) (fun c6 => ?_) (fun c6 => ?_)
      · replace h := z_in c6 h
        refine v_iconst o (0 : Int32) dX11_isErased_32 (by decide) ?_
        refine v_istore_n o [(2, .int (0 : Int32)), (0, .ref (z_w q a0)), (1, .int a1), (3, .int a3)] dX11_isErased_33 rfl (by decide) rfl ?_
        refine v_iinc o (a3 + (1 : Int32)) [(3, .int (a3 + (1 : Int32))), (2, .int (0 : Int32)), (0, .ref (z_w q a0)), (1, .int a1)] dX11_isErased_34 3 rfl rfl (by decide) rfl ?_
        refine v_goto o 4 dX11_isErased_37 (by decide) ?_
        obtain rfl := z_some h
        refine v_sub [2, 3, 1, 0] rfl ?_
        exact hk
      · replace h := z_ip c6 h
        refine v_iconst o (1 : Int32) dX11_isErased_28 (by decide) ?_
        refine v_goto o 33 dX11_isErased_29 (by decide) ?_
        refine v_istore_n o [(2, .int (1 : Int32)), (0, .ref (z_w q a0)), (1, .int a1), (3, .int a3)] dX11_isErased_33 rfl (by decide) rfl ?_
        refine v_iinc o (a3 + (1 : Int32)) [(3, .int (a3 + (1 : Int32))), (2, .int (1 : Int32)), (0, .ref (z_w q a0)), (1, .int a1)] dX11_isErased_34 3 rfl rfl (by decide) rfl ?_
        refine v_goto o 4 dX11_isErased_37 (by decide) ?_
        obtain rfl := z_some h
        refine v_sub [2, 3, 1, 0] rfl ?_
        exact hk
def f_X11_isErased (G : z_G) (D : z_D) (a0 : Nat) (a1 : Int32) : Option (Int32) :=
  ((z_loop (fun v => c_X11_isErased_4 G D a0 a1 v.1 v.2) 4000 ((1 : Int32), (0 : Int32))).bind (fun e7 => z_gB e7 ((some e7))))
set_option maxRecDepth 100000 in
set_option maxHeartbeats 4000000 in
theorem b_X11_isErased {q : z_Q} {X : z_X} {G : z_G} {D : z_D} {a0 : Nat} {a1 : Int32} {r : Int32} (o : z_O q X cX11_isErased 4 "FlashTrustModel" "isErased" (some .boolean)) (hX : x_R X = z_rm 0 0 0) (hK0 : z_K G a0 = 111) (h : f_X11_isErased G D a0 a1 = some r) : z_V q X 4 (z_F q X (some (.int r)) G D 0 0) 0 0 G D 0 [(0, .ref (z_w q a0)), (1, .int a1)] [] := by
  unfold f_X11_isErased at h
  refine v_iconst o (1 : Int32) dX11_isErased_0 (by decide) ?_
  refine v_istore_n o [(2, .int (1 : Int32)), (0, .ref (z_w q a0)), (1, .int a1)] dX11_isErased_1 rfl (by decide) rfl ?_
  refine v_iconst o (0 : Int32) dX11_isErased_2 (by decide) ?_
  refine v_istore_n o [(3, .int (0 : Int32)), (2, .int (1 : Int32)), (0, .ref (z_w q a0)), (1, .int a1)] dX11_isErased_3 rfl (by decide) rfl ?_
  refine v_sub [2, 3, 1, 0] rfl ?_
  obtain ⟨e7, he8, h⟩ := z_bind h
  refine z_loopV (P := p_X11_isErased_4 q X _ G D a0 a1) (E := x_X11_isErased_4 q X _ G D a0 a1) (fun v ρ hb hk => tc_X11_isErased_4 (D := D) (a0 := a0) (a1 := a1) (a2 := v.1) (a3 := v.2) o hX hK0 hb hk) 4000 _ e7 he8 ?_
  show z_V q X 4 _ _ _ G D 40 [(2, .int e7)] []
  refine v_iload_n o dX11_isErased_40 rfl 0 rfl ?_
  obtain ⟨n9, h⟩ := z_gB_of h
  have hr := z_some h
  subst hr
  exact v_zreturn o (z_nb n9) dX11_isErased_41
theorem e_X11_isErased {q : z_Q} {l : Launch} {G : z_G} {D : z_D} {a0 : Nat} {a1 : Int32} {r : Int32} (hK0 : z_K G a0 = 111) (h : f_X11_isErased G D a0 a1 = some r) : z_E q l yX11_isErased cX11_isErased 4 (some .boolean) 0 0 0 [.ref (z_w q a0), .int a1] G D (some (.int r)) G D :=
  z_E.of (by decide) (Nat.le_of_ble_eq_true rfl) (fun X hX _ o => b_X11_isErased o hX hK0 h)
def p_X11_writeState_57 (q : z_Q) (X : z_X) (Q : State → Prop) (G : z_G) (D : z_D) (a0 : Nat) (a1 : Int32) (a2 : Int32) : (Int32 × Int32) → Prop := (fun v => z_V q X 7 Q 0 0 G D 57 [(0, .ref (z_w q a0)), (1, .int a1), (2, .int a2), (4, .int v.1), (5, .int v.2)] [])
def x_X11_writeState_57 (q : z_Q) (X : z_X) (Q : State → Prop) (G : z_G) (D : z_D) (a0 : Nat) (a1 : Int32) (a2 : Int32) : Int32 → Prop := (fun v => z_V q X 7 Q 0 0 G D 107 [(0, .ref (z_w q a0)), (1, .int a1), (2, .int a2), (4, .int v)] [])
def k_X11_writeState_57 (q : z_Q) (X : z_X) (Q : State → Prop) (G : z_G) (D : z_D) (a0 : Nat) (a1 : Int32) (a2 : Int32) : (Int32 × Int32) ⊕ Int32 → Prop := Sum.elim (p_X11_writeState_57 q X Q G D a0 a1 a2) (x_X11_writeState_57 q X Q G D a0 a1 a2)
def c_X11_writeState_57 (G : z_G) (D : z_D) (a0 : Nat) (a1 : Int32) (a2 : Int32) (a4 : Int32) (a5 : Int32) : Option ((Int32 × Int32) ⊕ Int32) :=
  (if (4 : Int32) ≤ a5 then (some (.inr a4)) else ((if a4 = (-2 : Int32) then ((f_X11_isErased G D a0 (((128 : Int32) * a2) + ((32 : Int32) * a5))).bind (fun r6 => ((if r6 = (0 : Int32) then ((some (.inl ((-2 : Int32), (a5 + (1 : Int32)))))) else (((some (.inl ((((128 : Int32) * a2) + ((32 : Int32) * a5)), (a5 + (1 : Int32))))))))))) else (some (.inr a4)))))
set_option maxRecDepth 100000 in
set_option maxHeartbeats 4000000 in
theorem tc_X11_writeState_57 {q : z_Q} {X : z_X} {G : z_G} {D : z_D} {Q : State → Prop} {a0 : Nat} {a1 : Int32} {a2 : Int32} {a4 : Int32} {a5 : Int32} (o : z_O q X cX11_writeState 7 "FlashTrustModel" "writeState" none) (hX : x_R X = z_rm 4 0 0) (hK0 : z_K G a0 = 111) {ρ : (Int32 × Int32) ⊕ Int32} (h : c_X11_writeState_57 G D a0 a1 a2 a4 a5 = some ρ) (hk : k_X11_writeState_57 q X Q G D a0 a1 a2 ρ) : z_V q X 7 Q 0 0 G D 57 [(0, .ref (z_w q a0)), (1, .int a1), (2, .int a2), (4, .int a4), (5, .int a5)] [] := by
  unfold c_X11_writeState_57 at h
  refine v_iload o dX11_writeState_57 4 rfl ?_
  refine v_iconst o (4 : Int32) dX11_writeState_59 (by decide) ?_
  refine v_icmp_ge o 107 dX11_writeState_60 (by decide) (fun c3 => ?_) (fun c3 => ?_)
  · replace h := z_ip c3 h
    obtain rfl := z_some h
    refine v_sub [0, 1, 2, 3] rfl ?_
    exact hk
  · replace h := z_in c3 h
    refine v_iload o dX11_writeState_63 3 rfl ?_
    refine v_bipush o (-2 : Int32) dX11_writeState_65 (by decide) ?_
    refine v_icmp_ne o 107 dX11_writeState_67 (by decide) (fun c4 => ?_) (fun c4 => ?_)
    · replace h := z_in c4 h
      obtain rfl := z_some h
      refine v_sub [0, 1, 2, 3] rfl ?_
      exact hk
    · replace h := z_ip c4 h
      refine v_sipush o (128 : Int32) dX11_writeState_70 (by decide) ?_
      refine v_iload_n o dX11_writeState_73 rfl 2 rfl ?_
      refine v_imul o dX11_writeState_74 ?_
      refine v_bipush o (32 : Int32) dX11_writeState_75 (by decide) ?_
      refine v_iload o dX11_writeState_77 4 rfl ?_
      refine v_imul o dX11_writeState_79 ?_
      refine v_iadd o dX11_writeState_80 ?_
      refine v_istore o [(6, .int (((128 : Int32) * a2) + ((32 : Int32) * a5))), (0, .ref (z_w q a0)), (1, .int a1), (2, .int a2), (4, .int a4), (5, .int a5)] dX11_writeState_81 (by decide) rfl ?_
      refine v_aload_n o dX11_writeState_83 rfl 1 rfl ?_
      refine v_iload o dX11_writeState_84 0 rfl ?_
      obtain ⟨r6, he5, h⟩ := z_bind h
      refine v_callV o yw_X11_isErased ln_6_133 wi_X11_isErased ws_X11_isErased hX (by decide) 11 rfl hK0 (As := [.int (((128 : Int32) * a2) + ((32 : Int32) * a5))]) rfl rfl (Nat.le_of_ble_eq_true rfl) (e_X11_isErased hK0 he5) dX11_writeState_86 ?_
      refine v_if_eq o 97 dX11_writeState_89 (by decide) (fun c7 => ?_) (fun c7 => ?_)
      · replace h := z_ip c7 h
        refine v_bipush o (-2 : Int32) dX11_writeState_97 (by decide) ?_
        refine v_istore o [(4, .int (-2 : Int32)), (6, .int (((128 : Int32) * a2) + ((32 : Int32) * a5))), (0, .ref (z_w q a0)), (1, .int a1), (2, .int a2), (5, .int a5)] dX11_writeState_99 (by decide) rfl ?_
        refine v_iinc o (a5 + (1 : Int32)) [(5, .int (a5 + (1 : Int32))), (4, .int (-2 : Int32)), (6, .int (((128 : Int32) * a2) + ((32 : Int32) * a5))), (0, .ref (z_w q a0)), (1, .int a1), (2, .int a2)] dX11_writeState_101 5 rfl rfl (by decide) rfl ?_
        refine v_goto o 57 dX11_writeState_104 (by decide) ?_
        obtain rfl := z_some h
        refine v_sub [3, 4, 5, 1, 0] rfl ?_
        exact hk
      · replace h := z_in c7 h
        refine v_iload o dX11_writeState_92 0 rfl ?_
        refine v_goto o 99 dX11_writeState_94 (by decide) ?_
        refine v_istore o [(4, .int (((128 : Int32) * a2) + ((32 : Int32) * a5))), (6, .int (((128 : Int32) * a2) + ((32 : Int32) * a5))), (0, .ref (z_w q a0)), (1, .int a1), (2, .int a2), (5, .int a5)] dX11_writeState_99 (by decide) rfl ?_
        refine v_iinc o (a5 + (1 : Int32)) [(5, .int (a5 + (1 : Int32))), (4, .int (((128 : Int32) * a2) + ((32 : Int32) * a5))), (6, .int (((128 : Int32) * a2) + ((32 : Int32) * a5))), (0, .ref (z_w q a0)), (1, .int a1), (2, .int a2)] dX11_writeState_101 5 rfl rfl (by decide) rfl ?_
        refine v_goto o 57 dX11_writeState_104 (by decide) ?_
        obtain rfl := z_some h
        refine v_sub [3, 4, 5, 1, 0] rfl ?_
        exact hk
def j_X11_writeState_132 (G : z_G) (D : z_D) (a0 : Nat) (a1 : Int32) (a4 : Int32)  : Option (z_D) :=
  (f_X11_layPage G D a0 a1).bind (fun D12 => ((f_X11_writePage G D12 a0 a4).bind (fun D14 => ((f_X11_layState G D14 a0).bind (fun D16 => ((some D16)))))))
set_option maxRecDepth 100000 in
set_option maxHeartbeats 4000000 in
theorem tj_X11_writeState_132 {q : z_Q} {X : z_X} {G : z_G} {D : z_D} {a0 : Nat} {a1 : Int32} {a4 : Int32}   {D1 : z_D} (o : z_O q X cX11_writeState 7 "FlashTrustModel" "writeState" none) (hX : x_R X = z_rm 4 0 0) (hK0 : z_K G a0 = 111) (h : j_X11_writeState_132 G D a0 a1 a4  = some D1) : z_V q X 7 (z_F q X none G D1 0 0) 0 0 G D 132 [(0, .ref (z_w q a0)), (1, .int a1), (4, .int a4)] [] := by
  unfold j_X11_writeState_132 at h
  refine v_aload_n o dX11_writeState_132 rfl 0 rfl ?_
  refine v_iload_n o dX11_writeState_133 rfl 1 rfl ?_
  obtain ⟨D12, he11, h⟩ := z_bind h
  refine v_callV o yw_X11_layPage ln_5_87 wi_X11_layPage ws_X11_layPage hX (by decide) 11 rfl hK0 (As := [.int a1]) rfl rfl (Nat.le_of_ble_eq_true rfl) (e_X11_layPage hK0 he11) dX11_writeState_134 ?_
  refine v_aload_n o dX11_writeState_137 rfl 0 rfl ?_
  refine v_iload o dX11_writeState_138 2 rfl ?_
  obtain ⟨D14, he13, h⟩ := z_bind h
  refine v_callV o yw_X11_writePage ln_6_121 wi_X11_writePage ws_X11_writePage hX (by decide) 11 rfl hK0 (As := [.int a4]) rfl rfl (Nat.le_of_ble_eq_true rfl) (e_X11_writePage hK0 he13) dX11_writeState_140 ?_
  refine v_aload_n o dX11_writeState_143 rfl 0 rfl ?_
  obtain ⟨D16, he15, h⟩ := z_bind h
  refine v_callV o yw_X11_layState ln_5_63 wi_X11_layState ws_X11_layState hX (by decide) 11 rfl hK0 (As := []) rfl rfl (Nat.le_of_ble_eq_true rfl) (e_X11_layState hK0 he15) dX11_writeState_144 ?_
  have hr := z_some h
  subst hr
  exact v_return o dX11_writeState_147
def j_X11_writeState_49 (G : z_G) (D : z_D) (a0 : Nat) (a1 : Int32) (a2 : Int32) (s0 : Int32) : Option (z_D) :=
  ((z_loop (fun v => c_X11_writeState_57 G D a0 a1 a2 v.1 v.2) 4000 ((-2 : Int32), s0)).bind (fun e8 => (if e8 = (-2 : Int32) then ((f_X11_erase G D a0 ((17 : Int32) - a2)).bind (fun D18 => ((j_X11_writeState_132 G D18  a0 a1 ((128 : Int32) * ((17 : Int32) - a2)))))) else (j_X11_writeState_132 G D  a0 a1 e8))))
set_option maxRecDepth 100000 in
set_option maxHeartbeats 4000000 in
theorem tj_X11_writeState_49 {q : z_Q} {X : z_X} {G : z_G} {D : z_D} {a0 : Nat} {a1 : Int32} {a2 : Int32} {s0 : Int32}  {D1 : z_D} (o : z_O q X cX11_writeState 7 "FlashTrustModel" "writeState" none) (hX : x_R X = z_rm 4 0 0) (hK0 : z_K G a0 = 111) (h : j_X11_writeState_49 G D a0 a1 a2 s0 = some D1) : z_V q X 7 (z_F q X none G D1 0 0) 0 0 G D 49 [(0, .ref (z_w q a0)), (1, .int a1), (2, .int a2)] [.int s0] := by
  unfold j_X11_writeState_49 at h
  refine v_istore_n o [(3, .int s0), (0, .ref (z_w q a0)), (1, .int a1), (2, .int a2)] dX11_writeState_49 rfl (by decide) rfl ?_
  refine v_bipush o (-2 : Int32) dX11_writeState_50 (by decide) ?_
  refine v_istore o [(4, .int (-2 : Int32)), (3, .int s0), (0, .ref (z_w q a0)), (1, .int a1), (2, .int a2)] dX11_writeState_52 (by decide) rfl ?_
  refine v_iload_n o dX11_writeState_54 rfl 1 rfl ?_
  refine v_istore o [(5, .int s0), (4, .int (-2 : Int32)), (3, .int s0), (0, .ref (z_w q a0)), (1, .int a1), (2, .int a2)] dX11_writeState_55 (by decide) rfl ?_
  refine v_sub [3, 4, 5, 1, 0] rfl ?_
  obtain ⟨e8, he9, h⟩ := z_bind h
  refine z_loopV (P := p_X11_writeState_57 q X _ G D a0 a1 a2) (E := x_X11_writeState_57 q X _ G D a0 a1 a2) (fun v ρ hb hk => tc_X11_writeState_57 (D := D) (a0 := a0) (a1 := a1) (a2 := a2) (a4 := v.1) (a5 := v.2) o hX hK0 hb hk) 4000 _ e8 he9 ?_
  show z_V q X 7 _ _ _ G D 107 [(0, .ref (z_w q a0)), (1, .int a1), (2, .int a2), (4, .int e8)] []
  refine v_iload o dX11_writeState_107 3 rfl ?_
  refine v_bipush o (-2 : Int32) dX11_writeState_109 (by decide) ?_
  refine v_icmp_ne o 132 dX11_writeState_111 (by decide) (fun c10 => ?_) (fun c10 => ?_)
  · replace h := z_in c10 h
    refine v_sub [0, 1, 3] rfl ?_
    exact tj_X11_writeState_132 o hX hK0 h
  · replace h := z_ip c10 h
    refine v_aload_n o dX11_writeState_114 rfl 0 rfl ?_
    refine v_bipush o (17 : Int32) dX11_writeState_115 (by decide) ?_
    refine v_iload_n o dX11_writeState_117 rfl 2 rfl ?_
    refine v_isub o dX11_writeState_118 ?_
    obtain ⟨D18, he17, h⟩ := z_bind h
    refine v_callV o yw_X11_erase ln_6_137 wi_X11_erase ws_X11_erase hX (by decide) 11 rfl hK0 (As := [.int ((17 : Int32) - a2)]) rfl rfl (Nat.le_of_ble_eq_true rfl) (e_X11_erase hK0 he17) dX11_writeState_119 ?_
    refine v_sipush o (128 : Int32) dX11_writeState_122 (by decide) ?_
    refine v_bipush o (17 : Int32) dX11_writeState_125 (by decide) ?_
    refine v_iload_n o dX11_writeState_127 rfl 2 rfl ?_
    refine v_isub o dX11_writeState_128 ?_
    refine v_imul o dX11_writeState_129 ?_
    refine v_istore o [(4, .int ((128 : Int32) * ((17 : Int32) - a2))), (0, .ref (z_w q a0)), (1, .int a1), (2, .int a2)] dX11_writeState_130 (by decide) rfl ?_
    refine v_sub [1, 2, 0] rfl ?_
    exact tj_X11_writeState_132 o hX hK0 h
def j_X11_writeState_22 (G : z_G) (D : z_D) (a0 : Nat) (a1 : Int32) (s0 : Int32) : Option (z_D) :=
  (if (z_I D 1114 a0) = (-2 : Int32) then ((j_X11_writeState_49 G D  a0 a1 s0 (0 : Int32))) else ((j_X11_writeState_49 G D  a0 a1 s0 ((((z_I D 1114 a0) - (z_I D 1114 a0) / (128 : Int32) * (128 : Int32)) / (32 : Int32)) + (1 : Int32)))))
set_option maxRecDepth 100000 in
set_option maxHeartbeats 4000000 in
theorem tj_X11_writeState_22 {q : z_Q} {X : z_X} {G : z_G} {D : z_D} {a0 : Nat} {a1 : Int32} {s0 : Int32}  {D1 : z_D} (o : z_O q X cX11_writeState 7 "FlashTrustModel" "writeState" none) (hX : x_R X = z_rm 4 0 0) (hK0 : z_K G a0 = 111) (h : j_X11_writeState_22 G D a0 a1 s0 = some D1) : z_V q X 7 (z_F q X none G D1 0 0) 0 0 G D 22 [(0, .ref (z_w q a0)), (1, .int a1)] [.int s0] := by
  unfold j_X11_writeState_22 at h
  refine v_istore_n o [(2, .int s0), (0, .ref (z_w q a0)), (1, .int a1)] dX11_writeState_22 rfl (by decide) rfl ?_
  refine v_aload_n o dX11_writeState_23 rfl 1 rfl ?_
  refine gt_11_14 o hK0 ln_5_109 dX11_writeState_24 ?_
  refine v_bipush o (-2 : Int32) dX11_writeState_27 (by decide) ?_
  refine v_icmp_ne o 36 dX11_writeState_29 (by decide) (fun c2 => ?_) (fun c2 => ?_)
  · replace h := z_in c2 h
    refine v_aload_n o dX11_writeState_36 rfl 1 rfl ?_
    refine gt_11_14 o hK0 ln_5_109 dX11_writeState_37 ?_
    refine v_sipush o (128 : Int32) dX11_writeState_40 (by decide) ?_
    refine v_irem o dX11_writeState_43 (by decide) ?_
    refine v_bipush o (32 : Int32) dX11_writeState_44 (by decide) ?_
    refine v_idiv o dX11_writeState_46 (by decide) ?_
    refine v_iconst o (1 : Int32) dX11_writeState_47 (by decide) ?_
    refine v_iadd o dX11_writeState_48 ?_
    refine v_sub [1, 2, 0] rfl ?_
    exact tj_X11_writeState_49 o hX hK0 h
  · replace h := z_ip c2 h
    refine v_iconst o (0 : Int32) dX11_writeState_32 (by decide) ?_
    refine v_goto o 49 dX11_writeState_33 (by decide) ?_
    refine v_sub [1, 2, 0] rfl ?_
    exact tj_X11_writeState_49 o hX hK0 h
def f_X11_writeState (G : z_G) (D : z_D) (a0 : Nat) (a1 : Int32) : Option (z_D) :=
  (if (z_I D 1114 a0) = (-2 : Int32) then ((j_X11_writeState_22 G D  a0 a1 (8 : Int32))) else ((j_X11_writeState_22 G D  a0 a1 ((z_I D 1114 a0) / (128 : Int32)))))
set_option maxRecDepth 100000 in
set_option maxHeartbeats 4000000 in
theorem b_X11_writeState {q : z_Q} {X : z_X} {G : z_G} {D : z_D} {a0 : Nat} {a1 : Int32}  {D1 : z_D} (o : z_O q X cX11_writeState 7 "FlashTrustModel" "writeState" none) (hX : x_R X = z_rm 4 0 0) (hK0 : z_K G a0 = 111) (h : f_X11_writeState G D a0 a1 = some D1) : z_V q X 7 (z_F q X none G D1 0 0) 0 0 G D 0 [(0, .ref (z_w q a0)), (1, .int a1)] [] := by
  unfold f_X11_writeState at h
  refine v_aload_n o dX11_writeState_0 rfl 0 rfl ?_
  refine gt_11_14 o hK0 ln_5_109 dX11_writeState_1 ?_
  refine v_bipush o (-2 : Int32) dX11_writeState_4 (by decide) ?_
  refine v_icmp_ne o 14 dX11_writeState_6 (by decide) (fun c1 => ?_) (fun c1 => ?_)
  · replace h := z_in c1 h
    refine v_aload_n o dX11_writeState_14 rfl 0 rfl ?_
    refine gt_11_14 o hK0 ln_5_109 dX11_writeState_15 ?_
    refine v_sipush o (128 : Int32) dX11_writeState_18 (by decide) ?_
    refine v_idiv o dX11_writeState_21 (by decide) ?_
    exact tj_X11_writeState_22 o hX hK0 h
  · replace h := z_ip c1 h
    refine v_bipush o (8 : Int32) dX11_writeState_9 (by decide) ?_
    refine v_goto o 22 dX11_writeState_11 (by decide) ?_
    exact tj_X11_writeState_22 o hX hK0 h
theorem e_X11_writeState {q : z_Q} {l : Launch} {G : z_G} {D : z_D} {a0 : Nat} {a1 : Int32}  {D1 : z_D} (hK0 : z_K G a0 = 111) (h : f_X11_writeState G D a0 a1 = some D1) : z_E q l yX11_writeState cX11_writeState 7 none 4 0 0 [.ref (z_w q a0), .int a1] G D none G D1 :=
  z_E.of (by decide) (Nat.le_of_ble_eq_true rfl) (fun X hX _ o => b_X11_writeState o hX hK0 h)
def p_X11_docWide_5 (q : z_Q) (X : z_X) (Q : State → Prop) (G : z_G) (D : z_D) (a0 : Nat) (a1 : Int32) (a2 : Int32) : (Int32 × Int32) → Prop := (fun v => z_V q X 5 Q 0 0 G D 5 [(0, .ref (z_w q a0)), (1, .int a1), (2, .int a2), (3, .int v.1), (4, .int v.2)] [])
def x_X11_docWide_5 (q : z_Q) (X : z_X) (Q : State → Prop) (G : z_G) (D : z_D) (a0 : Nat) (a1 : Int32) (a2 : Int32) : Int32 → Prop := (fun v => z_V q X 5 Q 0 0 G D 32 [(3, .int v)] [])
def k_X11_docWide_5 (q : z_Q) (X : z_X) (Q : State → Prop) (G : z_G) (D : z_D) (a0 : Nat) (a1 : Int32) (a2 : Int32) : (Int32 × Int32) ⊕ Int32 → Prop := Sum.elim (p_X11_docWide_5 q X Q G D a0 a1 a2) (x_X11_docWide_5 q X Q G D a0 a1 a2)
def c_X11_docWide_5 (G : z_G) (D : z_D) (a0 : Nat) (a1 : Int32) (a2 : Int32) (a3 : Int32) (a4 : Int32) : Option ((Int32 × Int32) ⊕ Int32) :=
  (if a2 ≤ a4 then (some (.inr a3)) else (z_gK G 1 (z_R G 1125 a0) (z_gA G 1 (z_R G 1125 a0) (a1 + a4) ((some (.inl (((a3 <<< ((8 : Int32) &&& 31)) ||| (z_U D (z_R G 1125 a0) ((a1 + a4)).toNatClampNeg)), (a4 + (1 : Int32)))))))))
set_option maxRecDepth 100000 in
set_option maxHeartbeats 4000000 in
theorem tc_X11_docWide_5 {q : z_Q} {X : z_X} {G : z_G} {D : z_D} {Q : State → Prop} {a0 : Nat} {a1 : Int32} {a2 : Int32} {a3 : Int32} {a4 : Int32} (o : z_O q X cX11_docWide 5 "FlashTrustModel" "docWide" (some .int)) (hX : x_R X = z_rm 0 0 0) (hK0 : z_K G a0 = 111) {ρ : (Int32 × Int32) ⊕ Int32} (h : c_X11_docWide_5 G D a0 a1 a2 a3 a4 = some ρ) (hk : k_X11_docWide_5 q X Q G D a0 a1 a2 ρ) : z_V q X 5 Q 0 0 G D 5 [(0, .ref (z_w q a0)), (1, .int a1), (2, .int a2), (3, .int a3), (4, .int a4)] [] := by
  unfold c_X11_docWide_5 at h
  refine v_iload o dX11_docWide_5 4 rfl ?_
  refine v_iload_n o dX11_docWide_7 rfl 2 rfl ?_
  refine v_icmp_ge o 32 dX11_docWide_8 (by decide) (fun c1 => ?_) (fun c1 => ?_)
  · replace h := z_ip c1 h
    obtain rfl := z_some h
    refine v_sub [3] rfl ?_
    exact hk
  · replace h := z_in c1 h
    refine v_iload_n o dX11_docWide_11 rfl 3 rfl ?_
    refine v_bipush o (8 : Int32) dX11_docWide_12 (by decide) ?_
    refine v_ishl o dX11_docWide_14 ?_
    refine v_aload_n o dX11_docWide_15 rfl 0 rfl ?_
    obtain ⟨n2, h⟩ := z_gK_of h
    refine gt_11_25 o hK0 ln_5_120 (by rw [n2]; decide) dX11_docWide_16 ?_
    refine v_iload_n o dX11_docWide_19 rfl 1 rfl ?_
    refine v_iload o dX11_docWide_20 4 rfl ?_
    refine v_iadd o dX11_docWide_22 ?_
    obtain ⟨n3, n4, h⟩ := z_gA_of h
    refine v_iald o n3 n4 dX11_docWide_23 ?_
    refine v_ior o dX11_docWide_24 ?_
    refine v_istore_n o [(3, .int ((a3 <<< ((8 : Int32) &&& 31)) ||| (z_U D (z_R G 1125 a0) ((a1 + a4)).toNatClampNeg))), (0, .ref (z_w q a0)), (1, .int a1), (2, .int a2), (4, .int a4)] dX11_docWide_25 rfl (by decide) rfl ?_
    refine v_iinc o (a4 + (1 : Int32)) [(4, .int (a4 + (1 : Int32))), (3, .int ((a3 <<< ((8 : Int32) &&& 31)) ||| (z_U D (z_R G 1125 a0) ((a1 + a4)).toNatClampNeg))), (0, .ref (z_w q a0)), (1, .int a1), (2, .int a2)] dX11_docWide_26 4 rfl rfl (by decide) rfl ?_
    refine v_goto o 5 dX11_docWide_29 (by decide) ?_
    obtain rfl := z_some h
    refine v_sub [2, 3, 4, 1, 0] rfl ?_
    exact hk
def f_X11_docWide (G : z_G) (D : z_D) (a0 : Nat) (a1 : Int32) (a2 : Int32) : Option (Int32) :=
  ((z_loop (fun v => c_X11_docWide_5 G D a0 a1 a2 v.1 v.2) 4000 ((0 : Int32), (0 : Int32))).bind (fun e5 => (some e5)))
set_option maxRecDepth 100000 in
set_option maxHeartbeats 4000000 in
theorem b_X11_docWide {q : z_Q} {X : z_X} {G : z_G} {D : z_D} {a0 : Nat} {a1 : Int32} {a2 : Int32} {r : Int32} (o : z_O q X cX11_docWide 5 "FlashTrustModel" "docWide" (some .int)) (hX : x_R X = z_rm 0 0 0) (hK0 : z_K G a0 = 111) (h : f_X11_docWide G D a0 a1 a2 = some r) : z_V q X 5 (z_F q X (some (.int r)) G D 0 0) 0 0 G D 0 [(0, .ref (z_w q a0)), (1, .int a1), (2, .int a2)] [] := by
  unfold f_X11_docWide at h
  refine v_iconst o (0 : Int32) dX11_docWide_0 (by decide) ?_
  refine v_istore_n o [(3, .int (0 : Int32)), (0, .ref (z_w q a0)), (1, .int a1), (2, .int a2)] dX11_docWide_1 rfl (by decide) rfl ?_
  refine v_iconst o (0 : Int32) dX11_docWide_2 (by decide) ?_
  refine v_istore o [(4, .int (0 : Int32)), (3, .int (0 : Int32)), (0, .ref (z_w q a0)), (1, .int a1), (2, .int a2)] dX11_docWide_3 (by decide) rfl ?_
  refine v_sub [2, 3, 4, 1, 0] rfl ?_
  obtain ⟨e5, he6, h⟩ := z_bind h
  refine z_loopV (P := p_X11_docWide_5 q X _ G D a0 a1 a2) (E := x_X11_docWide_5 q X _ G D a0 a1 a2) (fun v ρ hb hk => tc_X11_docWide_5 (D := D) (a0 := a0) (a1 := a1) (a2 := a2) (a3 := v.1) (a4 := v.2) o hX hK0 hb hk) 4000 _ e5 he6 ?_
  show z_V q X 5 _ _ _ G D 32 [(3, .int e5)] []
  refine v_iload_n o dX11_docWide_32 rfl 0 rfl ?_
  have hr := z_some h
  subst hr
  exact v_ireturn o dX11_docWide_33
theorem e_X11_docWide {q : z_Q} {l : Launch} {G : z_G} {D : z_D} {a0 : Nat} {a1 : Int32} {a2 : Int32} {r : Int32} (hK0 : z_K G a0 = 111) (h : f_X11_docWide G D a0 a1 a2 = some r) : z_E q l yX11_docWide cX11_docWide 5 (some .int) 0 0 0 [.ref (z_w q a0), .int a1, .int a2] G D (some (.int r)) G D :=
  z_E.of (by decide) (Nat.le_of_ble_eq_true rfl) (fun X hX _ o => b_X11_docWide o hX hK0 h)
def f_X11_docLong (G : z_G) (D : z_D) (a0 : Nat) (a1 : Int32) : Option (Int64) :=
  (f_X11_docWide G D a0 a1 (4 : Int32)).bind (fun r2 => ((f_X11_docWide G D a0 (a1 + (4 : Int32)) (4 : Int32)).bind (fun r4 => ((some (((r2).toInt64 <<< (((32 : Int32)).toInt64 &&& 63)) ||| ((r4).toInt64 &&& (4294967295 : Int64))))))))
set_option maxRecDepth 100000 in
set_option maxHeartbeats 4000000 in
theorem b_X11_docLong {q : z_Q} {X : z_X} {G : z_G} {D : z_D} {a0 : Nat} {a1 : Int32} {r : Int64} (o : z_O q X cX11_docLong 2 "FlashTrustModel" "docLong" (some .long)) (hX : x_R X = z_rm 1 0 0) (hK0 : z_K G a0 = 111) (h : f_X11_docLong G D a0 a1 = some r) : z_V q X 2 (z_F q X (some (.long r)) G D 0 0) 0 0 G D 0 [(0, .ref (z_w q a0)), (1, .int a1)] [] := by
  unfold f_X11_docLong at h
  refine v_aload_n o dX11_docLong_0 rfl 0 rfl ?_
  refine v_iload_n o dX11_docLong_1 rfl 1 rfl ?_
  refine v_iconst o (4 : Int32) dX11_docLong_2 (by decide) ?_
  obtain ⟨r2, he1, h⟩ := z_bind h
  refine v_callV o yw_X11_docWide ln_6_145 wi_X11_docWide ws_X11_docWide hX (by decide) 11 rfl hK0 (As := [.int a1, .int (4 : Int32)]) rfl rfl (Nat.le_of_ble_eq_true rfl) (e_X11_docWide hK0 he1) dX11_docLong_3 ?_
  refine v_i2l o dX11_docLong_6 ?_
  refine v_bipush o (32 : Int32) dX11_docLong_7 (by decide) ?_
  refine v_lshl o dX11_docLong_9 ?_
  refine v_aload_n o dX11_docLong_10 rfl 0 rfl ?_
  refine v_iload_n o dX11_docLong_11 rfl 1 rfl ?_
  refine v_iconst o (4 : Int32) dX11_docLong_12 (by decide) ?_
  refine v_iadd o dX11_docLong_13 ?_
  refine v_iconst o (4 : Int32) dX11_docLong_14 (by decide) ?_
  obtain ⟨r4, he3, h⟩ := z_bind h
  refine v_callV o yw_X11_docWide ln_6_145 wi_X11_docWide ws_X11_docWide hX (by decide) 11 rfl hK0 (As := [.int (a1 + (4 : Int32)), .int (4 : Int32)]) rfl rfl (Nat.le_of_ble_eq_true rfl) (e_X11_docWide hK0 he3) dX11_docLong_15 ?_
  refine v_i2l o dX11_docLong_18 ?_
  refine v_ldc2 o ln_6_153 dX11_docLong_19 ?_
  refine v_land o dX11_docLong_22 ?_
  refine v_lor o dX11_docLong_23 ?_
  have hr := z_some h
  subst hr
  exact v_lreturn o dX11_docLong_24
theorem e_X11_docLong {q : z_Q} {l : Launch} {G : z_G} {D : z_D} {a0 : Nat} {a1 : Int32} {r : Int64} (hK0 : z_K G a0 = 111) (h : f_X11_docLong G D a0 a1 = some r) : z_E q l yX11_docLong cX11_docLong 2 (some .long) 1 0 0 [.ref (z_w q a0), .int a1] G D (some (.long r)) G D :=
  z_E.of (by decide) (Nat.le_of_ble_eq_true rfl) (fun X hX _ o => b_X11_docLong o hX hK0 h)
def p_X11_keysAt_8 (q : z_Q) (X : z_X) (Q : State → Prop) (G : z_G) (D : z_D) (a0 : Nat) (a1 : Int32) (a2 : Int32) : (Int32 × Int32 × Int32) → Prop := (fun v => z_V q X 7 Q 0 0 G D 8 [(0, .ref (z_w q a0)), (1, .int a1), (2, .int a2), (3, .int v.1), (4, .int v.2.1), (5, .int v.2.2)] [])
def x_X11_keysAt_8 (q : z_Q) (X : z_X) (Q : State → Prop) (G : z_G) (D : z_D) (a0 : Nat) (a1 : Int32) (a2 : Int32) : (Unit ⊕ Int32) → Prop := (Sum.elim (fun v => z_V q X 7 Q 0 0 G D 39 [] []) (fun v => z_V q X 7 Q 0 0 G D 58 [(3, .int v)] []))
def k_X11_keysAt_8 (q : z_Q) (X : z_X) (Q : State → Prop) (G : z_G) (D : z_D) (a0 : Nat) (a1 : Int32) (a2 : Int32) : (Int32 × Int32 × Int32) ⊕ (Unit ⊕ Int32) → Prop := Sum.elim (p_X11_keysAt_8 q X Q G D a0 a1 a2) (x_X11_keysAt_8 q X Q G D a0 a1 a2)
def c_X11_keysAt_8 (G : z_G) (D : z_D) (a0 : Nat) (a1 : Int32) (a2 : Int32) (a3 : Int32) (a4 : Int32) (a5 : Int32) : Option ((Int32 × Int32 × Int32) ⊕ (Unit ⊕ Int32)) :=
  (if a2 ≤ a5 then (some (.inr (.inr a3))) else (z_gK G 1 (z_R G 1125 a0) (z_gA G 1 (z_R G 1125 a0) (a1 + a5) ((if (z_U D (z_R G 1125 a0) ((a1 + a5)).toNatClampNeg) ≤ a4 then (some (.inr (.inl ()))) else ((if (z_U D (z_R G 1125 a0) ((a1 + a5)).toNatClampNeg) ≤ (15 : Int32) then ((some (.inl ((a3 ||| ((1 : Int32) <<< ((z_U D (z_R G 1125 a0) ((a1 + a5)).toNatClampNeg) &&& 31))), (z_U D (z_R G 1125 a0) ((a1 + a5)).toNatClampNeg), (a5 + (1 : Int32)))))) else (some (.inr (.inl ()))))))))))
set_option maxRecDepth 100000 in
set_option maxHeartbeats 4000000 in
theorem tc_X11_keysAt_8 {q : z_Q} {X : z_X} {G : z_G} {D : z_D} {Q : State → Prop} {a0 : Nat} {a1 : Int32} {a2 : Int32} {a3 : Int32} {a4 : Int32} {a5 : Int32} (o : z_O q X cX11_keysAt 7 "FlashTrustModel" "keysAt" (some .int)) (hX : x_R X = z_rm 0 0 0) (hK0 : z_K G a0 = 111) {ρ : (Int32 × Int32 × Int32) ⊕ (Unit ⊕ Int32)} (h : c_X11_keysAt_8 G D a0 a1 a2 a3 a4 a5 = some ρ) (hk : k_X11_keysAt_8 q X Q G D a0 a1 a2 ρ) : z_V q X 7 Q 0 0 G D 8 [(0, .ref (z_w q a0)), (1, .int a1), (2, .int a2), (3, .int a3), (4, .int a4), (5, .int a5)] [] := by
  unfold c_X11_keysAt_8 at h
  refine v_iload o dX11_keysAt_8 5 rfl ?_
  refine v_iload_n o dX11_keysAt_10 rfl 2 rfl ?_
  refine v_icmp_ge o 58 dX11_keysAt_11 (by decide) (fun c1 => ?_) (fun c1 => ?_)
  · replace h := z_ip c1 h
    obtain rfl := z_some h
    refine v_sub [3] rfl ?_
    exact hk
  · replace h := z_in c1 h
    refine v_aload_n o dX11_keysAt_14 rfl 0 rfl ?_
    obtain ⟨n2, h⟩ := z_gK_of h
    refine gt_11_25 o hK0 ln_5_120 (by rw [n2]; decide) dX11_keysAt_15 ?_
    refine v_iload_n o dX11_keysAt_18 rfl 1 rfl ?_
    refine v_iload o dX11_keysAt_19 5 rfl ?_
    refine v_iadd o dX11_keysAt_21 ?_
    obtain ⟨n3, n4, h⟩ := z_gA_of h
    refine v_iald o n3 n4 dX11_keysAt_22 ?_
    refine v_istore o [(6, .int (z_U D (z_R G 1125 a0) ((a1 + a5)).toNatClampNeg)), (0, .ref (z_w q a0)), (1, .int a1), (2, .int a2), (3, .int a3), (4, .int a4), (5, .int a5)] dX11_keysAt_23 (by decide) rfl ?_
    refine v_iload o dX11_keysAt_25 0 rfl ?_
    refine v_iload o dX11_keysAt_27 5 rfl ?_
    refine v_icmp_le o 39 dX11_keysAt_29 (by decide) (fun c5 => ?_) (fun c5 => ?_)
    · replace h := z_ip c5 h
      obtain rfl := z_some h
      refine v_sub [] rfl ?_
      exact hk
    · replace h := z_in c5 h
      refine v_iload o dX11_keysAt_32 0 rfl ?_
      refine v_bipush o (15 : Int32) dX11_keysAt_34 (by decide) ?_
      refine v_icmp_le o 41 dX11_keysAt_36 (by decide) (fun c6 => ?_) (fun c6 => ?_)
      · replace h := z_ip c6 h
        refine v_iload o dX11_keysAt_41 0 rfl ?_
        refine v_istore o [(4, .int (z_U D (z_R G 1125 a0) ((a1 + a5)).toNatClampNeg)), (6, .int (z_U D (z_R G 1125 a0) ((a1 + a5)).toNatClampNeg)), (0, .ref (z_w q a0)), (1, .int a1), (2, .int a2), (3, .int a3), (5, .int a5)] dX11_keysAt_43 (by decide) rfl ?_
        refine v_iload_n o dX11_keysAt_45 rfl 5 rfl ?_
        refine v_iconst o (1 : Int32) dX11_keysAt_46 (by decide) ?_
        refine v_iload o dX11_keysAt_47 1 rfl ?_
        refine v_ishl o dX11_keysAt_49 ?_
        refine v_ior o dX11_keysAt_50 ?_
        refine v_istore_n o [(3, .int (a3 ||| ((1 : Int32) <<< ((z_U D (z_R G 1125 a0) ((a1 + a5)).toNatClampNeg) &&& 31)))), (4, .int (z_U D (z_R G 1125 a0) ((a1 + a5)).toNatClampNeg)), (6, .int (z_U D (z_R G 1125 a0) ((a1 + a5)).toNatClampNeg)), (0, .ref (z_w q a0)), (1, .int a1), (2, .int a2), (5, .int a5)] dX11_keysAt_51 rfl (by decide) rfl ?_
        refine v_iinc o (a5 + (1 : Int32)) [(5, .int (a5 + (1 : Int32))), (3, .int (a3 ||| ((1 : Int32) <<< ((z_U D (z_R G 1125 a0) ((a1 + a5)).toNatClampNeg) &&& 31)))), (4, .int (z_U D (z_R G 1125 a0) ((a1 + a5)).toNatClampNeg)), (6, .int (z_U D (z_R G 1125 a0) ((a1 + a5)).toNatClampNeg)), (0, .ref (z_w q a0)), (1, .int a1), (2, .int a2)] dX11_keysAt_52 6 rfl rfl (by decide) rfl ?_
        refine v_goto o 8 dX11_keysAt_55 (by decide) ?_
        obtain rfl := z_some h
        refine v_sub [4, 5, 6, 1, 2, 0] rfl ?_
        exact hk
      · replace h := z_in c6 h
        obtain rfl := z_some h
        refine v_sub [] rfl ?_
        exact hk
def f_X11_keysAt (G : z_G) (D : z_D) (a0 : Nat) (a1 : Int32) (a2 : Int32) : Option (Int32) :=
  ((z_loop (fun v => c_X11_keysAt_8 G D a0 a1 a2 v.1 v.2.1 v.2.2) 4000 ((0 : Int32), (-1 : Int32), (0 : Int32))).bind (Sum.elim (fun e7 => (some (-1 : Int32))) (fun e7 => (some e7))))
set_option maxRecDepth 100000 in
set_option maxHeartbeats 4000000 in
theorem b_X11_keysAt {q : z_Q} {X : z_X} {G : z_G} {D : z_D} {a0 : Nat} {a1 : Int32} {a2 : Int32} {r : Int32} (o : z_O q X cX11_keysAt 7 "FlashTrustModel" "keysAt" (some .int)) (hX : x_R X = z_rm 0 0 0) (hK0 : z_K G a0 = 111) (h : f_X11_keysAt G D a0 a1 a2 = some r) : z_V q X 7 (z_F q X (some (.int r)) G D 0 0) 0 0 G D 0 [(0, .ref (z_w q a0)), (1, .int a1), (2, .int a2)] [] := by
  unfold f_X11_keysAt at h
  refine v_iconst o (0 : Int32) dX11_keysAt_0 (by decide) ?_
  refine v_istore_n o [(3, .int (0 : Int32)), (0, .ref (z_w q a0)), (1, .int a1), (2, .int a2)] dX11_keysAt_1 rfl (by decide) rfl ?_
  refine v_iconst o (-1 : Int32) dX11_keysAt_2 (by decide) ?_
  refine v_istore o [(4, .int (-1 : Int32)), (3, .int (0 : Int32)), (0, .ref (z_w q a0)), (1, .int a1), (2, .int a2)] dX11_keysAt_3 (by decide) rfl ?_
  refine v_iconst o (0 : Int32) dX11_keysAt_5 (by decide) ?_
  refine v_istore o [(5, .int (0 : Int32)), (4, .int (-1 : Int32)), (3, .int (0 : Int32)), (0, .ref (z_w q a0)), (1, .int a1), (2, .int a2)] dX11_keysAt_6 (by decide) rfl ?_
  refine v_sub [3, 4, 5, 2, 1, 0] rfl ?_
  obtain ⟨e7, he8, h⟩ := z_bind h
  refine z_loopV (P := p_X11_keysAt_8 q X _ G D a0 a1 a2) (E := x_X11_keysAt_8 q X _ G D a0 a1 a2) (fun v ρ hb hk => tc_X11_keysAt_8 (D := D) (a0 := a0) (a1 := a1) (a2 := a2) (a3 := v.1) (a4 := v.2.1) (a5 := v.2.2) o hX hK0 hb hk) 4000 _ e7 he8 ?_
  rcases e7 with e7 | e7
  · replace h := z_el h
    show z_V q X 7 _ _ _ G D 39 [] []
    refine v_iconst o (-1 : Int32) dX11_keysAt_39 (by decide) ?_
    have hr := z_some h
    subst hr
    exact v_ireturn o dX11_keysAt_40
  · replace h := z_er h
    show z_V q X 7 _ _ _ G D 58 [(3, .int e7)] []
    refine v_iload_n o dX11_keysAt_58 rfl 0 rfl ?_
    have hr := z_some h
    subst hr
    exact v_ireturn o dX11_keysAt_59
theorem e_X11_keysAt {q : z_Q} {l : Launch} {G : z_G} {D : z_D} {a0 : Nat} {a1 : Int32} {a2 : Int32} {r : Int32} (hK0 : z_K G a0 = 111) (h : f_X11_keysAt G D a0 a1 a2 = some r) : z_E q l yX11_keysAt cX11_keysAt 7 (some .int) 0 0 0 [.ref (z_w q a0), .int a1, .int a2] G D (some (.int r)) G D :=
  z_E.of (by decide) (Nat.le_of_ble_eq_true rfl) (fun X hX _ o => b_X11_keysAt o hX hK0 h)
def p_X11_readRoles_12 (q : z_Q) (X : z_X) (Q : State → Prop) (G : z_G) (a0 : Nat) (a2 : Int32) : (z_D × Int32 × Int32) → Prop := (fun v => z_V q X 6 Q 0 0 G v.1 12 [(0, .ref (z_w q a0)), (1, .int v.2.1), (2, .int a2), (3, .int v.2.2)] [])
def x_X11_readRoles_12 (q : z_Q) (X : z_X) (Q : State → Prop) (G : z_G) (a0 : Nat) (a2 : Int32) : (z_D ⊕ (z_D ⊕ (z_D ⊕ (z_D × Int32)))) → Prop := (Sum.elim (fun v => z_V q X 6 Q 0 0 G v 24 [] []) (Sum.elim (fun v => z_V q X 6 Q 0 0 G v 73 [] []) (Sum.elim (fun v => z_V q X 6 Q 0 0 G v 107 [] []) (fun v => z_V q X 6 Q 0 0 G v.1 122 [(1, .int v.2), (2, .int a2)] []))))
def k_X11_readRoles_12 (q : z_Q) (X : z_X) (Q : State → Prop) (G : z_G) (a0 : Nat) (a2 : Int32) : (z_D × Int32 × Int32) ⊕ (z_D ⊕ (z_D ⊕ (z_D ⊕ (z_D × Int32)))) → Prop := Sum.elim (p_X11_readRoles_12 q X Q G a0 a2) (x_X11_readRoles_12 q X Q G a0 a2)
def c_X11_readRoles_12 (G : z_G) (D : z_D) (a0 : Nat) (a2 : Int32) (a1 : Int32) (a3 : Int32) : Option ((z_D × Int32 × Int32) ⊕ (z_D ⊕ (z_D ⊕ (z_D ⊕ (z_D × Int32))))) :=
  (if (4 : Int32) ≤ a3 then (some (.inr (.inr (.inr (.inr (D, a1)))))) else ((if (a1 + (2 : Int32)) ≤ a2 then (z_gK G 1 (z_R G 1125 a0) (z_gA G 1 (z_R G 1125 a0) a1 (z_gA G 1 (z_R G 1125 a0) (a1 + (1 : Int32)) ((if (5 : Int32) < (z_U D (z_R G 1125 a0) ((a1 + (1 : Int32))).toNatClampNeg) then (some (.inr (.inr (.inl D)))) else ((if (z_U D (z_R G 1125 a0) (a1).toNatClampNeg) < (1 : Int32) then (some (.inr (.inr (.inl D)))) else ((if (z_U D (z_R G 1125 a0) ((a1 + (1 : Int32))).toNatClampNeg) < (z_U D (z_R G 1125 a0) (a1).toNatClampNeg) then (some (.inr (.inr (.inl D)))) else ((if ((a1 + (2 : Int32)) + (z_U D (z_R G 1125 a0) ((a1 + (1 : Int32))).toNatClampNeg)) ≤ a2 then (z_gK G 1 (z_R G 1133 a0) ((f_X11_keysAt G D a0 (a1 + (2 : Int32)) (z_U D (z_R G 1125 a0) ((a1 + (1 : Int32))).toNatClampNeg)).bind (fun r14 => (z_gA G 1 (z_R G 1133 a0) a3 (z_gK G 1 (z_R G 1134 a0) (z_gA G 1 (z_R G 1134 a0) a3 (z_gA G 1 (z_R G 1133 a0) a3 ((if (0 : Int32) ≤ (z_U (z_sU (z_sU D (z_R G 1133 a0) (a3).toNatClampNeg r14) (z_R G 1134 a0) (a3).toNatClampNeg (z_U D (z_R G 1125 a0) (a1).toNatClampNeg)) (z_R G 1133 a0) (a3).toNatClampNeg) then ((some (.inl ((z_sU (z_sU D (z_R G 1133 a0) (a3).toNatClampNeg r14) (z_R G 1134 a0) (a3).toNatClampNeg (z_U D (z_R G 1125 a0) (a1).toNatClampNeg)), (a1 + ((2 : Int32) + (z_U D (z_R G 1125 a0) ((a1 + (1 : Int32))).toNatClampNeg))), (a3 + (1 : Int32)))))) else (some (.inr (.inr (.inr (.inl (z_sU (z_sU D (z_R G 1133 a0) (a3).toNatClampNeg r14) (z_R G 1134 a0) (a3).toNatClampNeg (z_U D (z_R G 1125 a0) (a1).toNatClampNeg)))))))))))))))) else (some (.inr (.inr (.inl D))))))))))))))) else (some (.inr (.inl D))))))
set_option maxRecDepth 100000 in
set_option maxHeartbeats 4000000 in
theorem tc_X11_readRoles_12 {q : z_Q} {X : z_X} {G : z_G} {D : z_D} {Q : State → Prop} {a0 : Nat} {a2 : Int32} {a1 : Int32} {a3 : Int32} (o : z_O q X cX11_readRoles 6 "FlashTrustModel" "readRoles" (some .boolean)) (hX : x_R X = z_rm 1 0 0) (hK0 : z_K G a0 = 111) {ρ : (z_D × Int32 × Int32) ⊕ (z_D ⊕ (z_D ⊕ (z_D ⊕ (z_D × Int32))))} (h : c_X11_readRoles_12 G D a0 a2 a1 a3 = some ρ) (hk : k_X11_readRoles_12 q X Q G a0 a2 ρ) : z_V q X 6 Q 0 0 G D 12 [(0, .ref (z_w q a0)), (1, .int a1), (2, .int a2), (3, .int a3)] [] := by
  unfold c_X11_readRoles_12 at h
  refine v_iload_n o dX11_readRoles_12 rfl 3 rfl ?_
  refine v_iconst o (4 : Int32) dX11_readRoles_13 (by decide) ?_
  refine v_icmp_ge o 122 dX11_readRoles_14 (by decide) (fun c1 => ?_) (fun c1 => ?_)
  · replace h := z_ip c1 h
    obtain rfl := z_some h
    refine v_sub [1, 2] rfl ?_
    exact hk
  · replace h := z_in c1 h
    refine v_iload_n o dX11_readRoles_17 rfl 1 rfl ?_
    refine v_iconst o (2 : Int32) dX11_readRoles_18 (by decide) ?_
    refine v_iadd o dX11_readRoles_19 ?_
    refine v_iload_n o dX11_readRoles_20 rfl 2 rfl ?_
    refine v_icmp_le o 26 dX11_readRoles_21 (by decide) (fun c2 => ?_) (fun c2 => ?_)
    · replace h := z_ip c2 h
      refine v_aload_n o dX11_readRoles_26 rfl 0 rfl ?_
      obtain ⟨n3, h⟩ := z_gK_of h
      refine gt_11_25 o hK0 ln_5_120 (by rw [n3]; decide) dX11_readRoles_27 ?_
      refine v_iload_n o dX11_readRoles_30 rfl 1 rfl ?_
      obtain ⟨n4, n5, h⟩ := z_gA_of h
      refine v_iald o n4 n5 dX11_readRoles_31 ?_
      refine v_istore o [(4, .int (z_U D (z_R G 1125 a0) (a1).toNatClampNeg)), (0, .ref (z_w q a0)), (1, .int a1), (2, .int a2), (3, .int a3)] dX11_readRoles_32 (by decide) rfl ?_
      refine v_aload_n o dX11_readRoles_34 rfl 1 rfl ?_
      refine gt_11_25 o hK0 ln_5_120 (by rw [n3]; decide) dX11_readRoles_35 ?_
      refine v_iload_n o dX11_readRoles_38 rfl 2 rfl ?_
      refine v_iconst o (1 : Int32) dX11_readRoles_39 (by decide) ?_
      refine v_iadd o dX11_readRoles_40 ?_
      obtain ⟨n6, n7, h⟩ := z_gA_of h
      refine v_iald o n6 n7 dX11_readRoles_41 ?_
      refine v_istore o [(5, .int (z_U D (z_R G 1125 a0) ((a1 + (1 : Int32))).toNatClampNeg)), (4, .int (z_U D (z_R G 1125 a0) (a1).toNatClampNeg)), (0, .ref (z_w q a0)), (1, .int a1), (2, .int a2), (3, .int a3)] dX11_readRoles_42 (by decide) rfl ?_
      refine v_iload o dX11_readRoles_44 0 rfl ?_
      refine v_iconst o (5 : Int32) dX11_readRoles_46 (by decide) ?_
      refine v_icmp_gt o 73 dX11_readRoles_47 (by decide) (fun c8 => ?_) (fun c8 => ?_)
      · replace h := z_ip c8 h
        obtain rfl := z_some h
        refine v_sub [] rfl ?_
        exact hk
      · replace h := z_in c8 h
        refine v_iload o dX11_readRoles_50 1 rfl ?_
        refine v_iconst o (1 : Int32) dX11_readRoles_52 (by decide) ?_
        refine v_icmp_lt o 73 dX11_readRoles_53 (by decide) (fun c9 => ?_) (fun c9 => ?_)
        · replace h := z_ip c9 h
          obtain rfl := z_some h
          refine v_sub [] rfl ?_
          exact hk
        · replace h := z_in c9 h
          refine v_iload o dX11_readRoles_56 1 rfl ?_
          refine v_iload o dX11_readRoles_58 0 rfl ?_
          refine v_icmp_gt o 73 dX11_readRoles_60 (by decide) (fun c10 => ?_) (fun c10 => ?_)
          · replace h := z_ip c10 h
            obtain rfl := z_some h
            refine v_sub [] rfl ?_
            exact hk
          · replace h := z_in c10 h
            refine v_iload_n o dX11_readRoles_63 rfl 3 rfl ?_
            refine v_iconst o (2 : Int32) dX11_readRoles_64 (by decide) ?_
            refine v_iadd o dX11_readRoles_65 ?_
            refine v_iload o dX11_readRoles_66 0 rfl ?_
            refine v_iadd o dX11_readRoles_68 ?_
            refine v_iload_n o dX11_readRoles_69 rfl 4 rfl ?_
            refine v_icmp_le o 75 dX11_readRoles_70 (by decide) (fun c11 => ?_) (fun c11 => ?_)
            · replace h := z_ip c11 h
              refine v_aload_n o dX11_readRoles_75 rfl 2 rfl ?_
              obtain ⟨n12, h⟩ := z_gK_of h
              refine gt_11_33 o hK0 ln_5_128 (by rw [n12]; decide) dX11_readRoles_76 ?_
              refine v_iload_n o dX11_readRoles_79 rfl 5 rfl ?_
              refine v_aload_n o dX11_readRoles_80 rfl 2 rfl ?_
              refine v_iload_n o dX11_readRoles_81 rfl 3 rfl ?_
              refine v_iconst o (2 : Int32) dX11_readRoles_82 (by decide) ?_
              refine v_iadd o dX11_readRoles_83 ?_
              refine v_iload o dX11_readRoles_84 0 rfl ?_
              obtain ⟨r14, he13, h⟩ := z_bind h
              refine v_callV o yw_X11_keysAt ln_6_149 wi_X11_keysAt ws_X11_keysAt hX (by decide) 11 rfl hK0 (As := [.int (a1 + (2 : Int32)), .int (z_U D (z_R G 1125 a0) ((a1 + (1 : Int32))).toNatClampNeg)]) rfl rfl (Nat.le_of_ble_eq_true rfl) (e_X11_keysAt hK0 he13) dX11_readRoles_86 ?_
              obtain ⟨n15, n16, h⟩ := z_gA_of h
              refine v_iast o n15 n16 dX11_readRoles_89 ?_
              refine v_aload_n o dX11_readRoles_90 rfl 2 rfl ?_
              obtain ⟨n17, h⟩ := z_gK_of h
              refine gt_11_34 o hK0 ln_5_129 (by rw [n17]; decide) dX11_readRoles_91 ?_
              refine v_iload_n o dX11_readRoles_94 rfl 5 rfl ?_
              refine v_iload o dX11_readRoles_95 1 rfl ?_
              obtain ⟨n18, n19, h⟩ := z_gA_of h
              refine v_iast o n18 n19 dX11_readRoles_97 ?_
              refine v_aload_n o dX11_readRoles_98 rfl 2 rfl ?_
              refine gt_11_33 o hK0 ln_5_128 (by rw [n12]; decide) dX11_readRoles_99 ?_
              refine v_iload_n o dX11_readRoles_102 rfl 5 rfl ?_
              obtain ⟨n20, n21, h⟩ := z_gA_of h
              refine v_iald o n20 n21 dX11_readRoles_103 ?_
              refine v_if_ge o 109 dX11_readRoles_104 (by decide) (fun c22 => ?_) (fun c22 => ?_)
              · replace h := z_ip c22 h
                refine v_iload_n o dX11_readRoles_109 rfl 3 rfl ?_
                refine v_iconst o (2 : Int32) dX11_readRoles_110 (by decide) ?_
                refine v_iload o dX11_readRoles_111 0 rfl ?_
                refine v_iadd o dX11_readRoles_113 ?_
                refine v_iadd o dX11_readRoles_114 ?_
                refine v_istore_n o [(1, .int (a1 + ((2 : Int32) + (z_U D (z_R G 1125 a0) ((a1 + (1 : Int32))).toNatClampNeg)))), (5, .int (z_U D (z_R G 1125 a0) ((a1 + (1 : Int32))).toNatClampNeg)), (4, .int (z_U D (z_R G 1125 a0) (a1).toNatClampNeg)), (0, .ref (z_w q a0)), (2, .int a2), (3, .int a3)] dX11_readRoles_115 rfl (by decide) rfl ?_
                refine v_iinc o (a3 + (1 : Int32)) [(3, .int (a3 + (1 : Int32))), (1, .int (a1 + ((2 : Int32) + (z_U D (z_R G 1125 a0) ((a1 + (1 : Int32))).toNatClampNeg)))), (5, .int (z_U D (z_R G 1125 a0) ((a1 + (1 : Int32))).toNatClampNeg)), (4, .int (z_U D (z_R G 1125 a0) (a1).toNatClampNeg)), (0, .ref (z_w q a0)), (2, .int a2)] dX11_readRoles_116 5 rfl rfl (by decide) rfl ?_
                refine v_goto o 12 dX11_readRoles_119 (by decide) ?_
                obtain rfl := z_some h
                refine v_sub [4, 1, 5, 0] rfl ?_
                exact hk
              · replace h := z_in c22 h
                obtain rfl := z_some h
                refine v_sub [] rfl ?_
                exact hk
            · replace h := z_in c11 h
              obtain rfl := z_some h
              refine v_sub [] rfl ?_
              exact hk
    · replace h := z_in c2 h
      obtain rfl := z_some h
      refine v_sub [] rfl ?_
      exact hk
def f_X11_readRoles (G : z_G) (D : z_D) (a0 : Nat) : Option (Int32 × z_D) :=
  ((z_loop (fun v => c_X11_readRoles_12 G v.1 a0 ((3 : Int32) + (z_I D 1129 a0)) v.2.1 v.2.2) 4000 (D, (9 : Int32), (0 : Int32))).bind (Sum.elim (fun e23 => (some ((0 : Int32), e23))) (Sum.elim (fun e23 => (some ((0 : Int32), e23))) (Sum.elim (fun e23 => (some ((0 : Int32), e23))) (fun e23 => (if e23.2 = ((3 : Int32) + (z_I D 1129 a0)) then (((some ((1 : Int32), e23.1)))) else ((some ((0 : Int32), e23.1)))))))))
set_option maxRecDepth 100000 in
set_option maxHeartbeats 4000000 in
theorem b_X11_readRoles {q : z_Q} {X : z_X} {G : z_G} {D : z_D} {a0 : Nat} {r : Int32} {D1 : z_D} (o : z_O q X cX11_readRoles 6 "FlashTrustModel" "readRoles" (some .boolean)) (hX : x_R X = z_rm 1 0 0) (hK0 : z_K G a0 = 111) (h : f_X11_readRoles G D a0 = some (r, D1)) : z_V q X 6 (z_F q X (some (.int r)) G D1 0 0) 0 0 G D 0 [(0, .ref (z_w q a0))] [] := by
  unfold f_X11_readRoles at h
  refine v_bipush o (9 : Int32) dX11_readRoles_0 (by decide) ?_
  refine v_istore_n o [(1, .int (9 : Int32)), (0, .ref (z_w q a0))] dX11_readRoles_2 rfl (by decide) rfl ?_
  refine v_iconst o (3 : Int32) dX11_readRoles_3 (by decide) ?_
  refine v_aload_n o dX11_readRoles_4 rfl 1 rfl ?_
  refine gt_11_29 o hK0 ln_5_124 dX11_readRoles_5 ?_
  refine v_iadd o dX11_readRoles_8 ?_
  refine v_istore_n o [(2, .int ((3 : Int32) + (z_I D 1129 a0))), (1, .int (9 : Int32)), (0, .ref (z_w q a0))] dX11_readRoles_9 rfl (by decide) rfl ?_
  refine v_iconst o (0 : Int32) dX11_readRoles_10 (by decide) ?_
  refine v_istore_n o [(3, .int (0 : Int32)), (2, .int ((3 : Int32) + (z_I D 1129 a0))), (1, .int (9 : Int32)), (0, .ref (z_w q a0))] dX11_readRoles_11 rfl (by decide) rfl ?_
  refine v_sub [3, 2, 1, 0] rfl ?_
  obtain ⟨e23, he24, h⟩ := z_bind h
  refine z_loopV (P := p_X11_readRoles_12 q X _ G a0 ((3 : Int32) + (z_I D 1129 a0))) (E := x_X11_readRoles_12 q X _ G a0 ((3 : Int32) + (z_I D 1129 a0))) (fun v ρ hb hk => tc_X11_readRoles_12 (D := v.1) (a0 := a0) (a1 := v.2.1) (a2 := ((3 : Int32) + (z_I D 1129 a0))) (a3 := v.2.2) o hX hK0 hb hk) 4000 _ e23 he24 ?_
  rcases e23 with e23 | e23
  · replace h := z_el h
    show z_V q X 6 _ _ _ G e23 24 [] []
    refine v_iconst o (0 : Int32) dX11_readRoles_24 (by decide) ?_
    obtain ⟨hr, hs⟩ := Prod.mk.inj (z_some h)
    subst hr
    subst hs
    exact v_zreturn o (by decide) dX11_readRoles_25
  · replace h := z_er h
    rcases e23 with e23 | e23
    · replace h := z_el h
      show z_V q X 6 _ _ _ G e23 73 [] []
      refine v_iconst o (0 : Int32) dX11_readRoles_73 (by decide) ?_
      obtain ⟨hr, hs⟩ := Prod.mk.inj (z_some h)
      subst hr
      subst hs
      exact v_zreturn o (by decide) dX11_readRoles_74
    · replace h := z_er h
      rcases e23 with e23 | e23
      · replace h := z_el h
        show z_V q X 6 _ _ _ G e23 107 [] []
        refine v_iconst o (0 : Int32) dX11_readRoles_107 (by decide) ?_
        obtain ⟨hr, hs⟩ := Prod.mk.inj (z_some h)
        subst hr
        subst hs
        exact v_zreturn o (by decide) dX11_readRoles_108
      · replace h := z_er h
        show z_V q X 6 _ _ _ G e23.1 122 [(1, .int e23.2), (2, .int ((3 : Int32) + (z_I D 1129 a0)))] []
        refine v_iload_n o dX11_readRoles_122 rfl 0 rfl ?_
        refine v_iload_n o dX11_readRoles_123 rfl 1 rfl ?_
        refine v_icmp_ne o 131 dX11_readRoles_124 (by decide) (fun c25 => ?_) (fun c25 => ?_)
        · replace h := z_in c25 h
          refine v_iconst o (0 : Int32) dX11_readRoles_131 (by decide) ?_
          obtain ⟨hr, hs⟩ := Prod.mk.inj (z_some h)
          subst hr
          subst hs
          exact v_zreturn o (by decide) dX11_readRoles_132
        · replace h := z_ip c25 h
          refine v_iconst o (1 : Int32) dX11_readRoles_127 (by decide) ?_
          refine v_goto o 132 dX11_readRoles_128 (by decide) ?_
          obtain ⟨hr, hs⟩ := Prod.mk.inj (z_some h)
          subst hr
          subst hs
          exact v_zreturn o (by decide) dX11_readRoles_132
theorem e_X11_readRoles {q : z_Q} {l : Launch} {G : z_G} {D : z_D} {a0 : Nat} {r : Int32} {D1 : z_D} (hK0 : z_K G a0 = 111) (h : f_X11_readRoles G D a0 = some (r, D1)) : z_E q l yX11_readRoles cX11_readRoles 6 (some .boolean) 1 0 0 [.ref (z_w q a0)] G D (some (.int r)) G D1 :=
  z_E.of (by decide) (Nat.le_of_ble_eq_true rfl) (fun X hX _ o => b_X11_readRoles o hX hK0 h)
def p_X11_readImages_57 (q : z_Q) (X : z_X) (Q : State → Prop) (G : z_G) (a0 : Nat) : (z_D × Int32 × Int32) → Prop := (fun v => z_V q X 5 Q 0 0 G v.1 57 [(0, .ref (z_w q a0)), (2, .int v.2.1), (3, .int v.2.2)] [])
def x_X11_readImages_57 (q : z_Q) (X : z_X) (Q : State → Prop) (G : z_G) (a0 : Nat) : (z_D ⊕ z_D) → Prop := (Sum.elim (fun v => z_V q X 5 Q 0 0 G v 148 [] []) (fun v => z_V q X 5 Q 0 0 G v 163 [] []))
def k_X11_readImages_57 (q : z_Q) (X : z_X) (Q : State → Prop) (G : z_G) (a0 : Nat) : (z_D × Int32 × Int32) ⊕ (z_D ⊕ z_D) → Prop := Sum.elim (p_X11_readImages_57 q X Q G a0) (x_X11_readImages_57 q X Q G a0)
def c_X11_readImages_57 (G : z_G) (D : z_D) (a0 : Nat) (a2 : Int32) (a3 : Int32) : Option ((z_D × Int32 × Int32) ⊕ (z_D ⊕ z_D)) :=
  (if (z_I D 1137 a0) ≤ a3 then (some (.inr (.inr D))) else (z_gK G 1 (z_R G 1138 a0) ((f_X11_docWide G D a0 ((10 : Int32) + ((12 : Int32) * a3)) (2 : Int32)).bind (fun r10 => (z_gA G 1 (z_R G 1138 a0) a3 (z_gK G 1 (z_R G 1139 a0) ((f_X11_docWide G (z_sU D (z_R G 1138 a0) (a3).toNatClampNeg r10) a0 (((10 : Int32) + ((12 : Int32) * a3)) + (2 : Int32)) (2 : Int32)).bind (fun r15 => (z_gA G 1 (z_R G 1139 a0) a3 (z_gK G 2 (z_R G 1140 a0) ((f_X11_docLong G (z_sU (z_sU D (z_R G 1138 a0) (a3).toNatClampNeg r10) (z_R G 1139 a0) (a3).toNatClampNeg r15) a0 (((10 : Int32) + ((12 : Int32) * a3)) + (4 : Int32))).bind (fun r20 => (z_gA G 2 (z_R G 1140 a0) a3 (z_gA G 1 (z_R G 1138 a0) a3 ((if (z_U (z_sY (z_sU (z_sU D (z_R G 1138 a0) (a3).toNatClampNeg r10) (z_R G 1139 a0) (a3).toNatClampNeg r15) (z_R G 1140 a0) (a3).toNatClampNeg r20) (z_R G 1138 a0) (a3).toNatClampNeg) ≤ a2 then (some (.inr (.inl (z_sY (z_sU (z_sU D (z_R G 1138 a0) (a3).toNatClampNeg r10) (z_R G 1139 a0) (a3).toNatClampNeg r15) (z_R G 1140 a0) (a3).toNatClampNeg r20)))) else (z_gA G 1 (z_R G 1139 a0) a3 ((if (z_U (z_sY (z_sU (z_sU D (z_R G 1138 a0) (a3).toNatClampNeg r10) (z_R G 1139 a0) (a3).toNatClampNeg r15) (z_R G 1140 a0) (a3).toNatClampNeg r20) (z_R G 1139 a0) (a3).toNatClampNeg) < (1 : Int32) then (some (.inr (.inl (z_sY (z_sU (z_sU D (z_R G 1138 a0) (a3).toNatClampNeg r10) (z_R G 1139 a0) (a3).toNatClampNeg r15) (z_R G 1140 a0) (a3).toNatClampNeg r20)))) else (z_gA G 1 (z_R G 1139 a0) a3 ((if (z_U (z_sY (z_sU (z_sU D (z_R G 1138 a0) (a3).toNatClampNeg r10) (z_R G 1139 a0) (a3).toNatClampNeg r15) (z_R G 1140 a0) (a3).toNatClampNeg r20) (z_R G 1139 a0) (a3).toNatClampNeg) ≤ (1024 : Int32) then (z_gA G 1 (z_R G 1138 a0) a3 ((some (.inl ((z_sY (z_sU (z_sU D (z_R G 1138 a0) (a3).toNatClampNeg r10) (z_R G 1139 a0) (a3).toNatClampNeg r15) (z_R G 1140 a0) (a3).toNatClampNeg r20), (z_U (z_sY (z_sU (z_sU D (z_R G 1138 a0) (a3).toNatClampNeg r10) (z_R G 1139 a0) (a3).toNatClampNeg r15) (z_R G 1140 a0) (a3).toNatClampNeg r20) (z_R G 1138 a0) (a3).toNatClampNeg), (a3 + (1 : Int32))))))) else (some (.inr (.inl (z_sY (z_sU (z_sU D (z_R G 1138 a0) (a3).toNatClampNeg r10) (z_R G 1139 a0) (a3).toNatClampNeg r15) (z_R G 1140 a0) (a3).toNatClampNeg r20))))))))))))))))))))))))))
set_option maxRecDepth 100000 in
set_option maxHeartbeats 4000000 in
theorem tc_X11_readImages_57 {q : z_Q} {X : z_X} {G : z_G} {D : z_D} {Q : State → Prop} {a0 : Nat} {a2 : Int32} {a3 : Int32} (o : z_O q X cX11_readImages 5 "FlashTrustModel" "readImages" (some .boolean)) (hX : x_R X = z_rm 2 0 0) (hK0 : z_K G a0 = 111) {ρ : (z_D × Int32 × Int32) ⊕ (z_D ⊕ z_D)} (h : c_X11_readImages_57 G D a0 a2 a3 = some ρ) (hk : k_X11_readImages_57 q X Q G a0 ρ) : z_V q X 5 Q 0 0 G D 57 [(0, .ref (z_w q a0)), (2, .int a2), (3, .int a3)] [] := by
  unfold c_X11_readImages_57 at h
  refine v_iload_n o dX11_readImages_57 rfl 2 rfl ?_
  refine v_aload_n o dX11_readImages_58 rfl 0 rfl ?_
  refine gt_11_37 o hK0 ln_5_132 dX11_readImages_59 ?_
  refine v_icmp_ge o 163 dX11_readImages_62 (by decide) (fun c7 => ?_) (fun c7 => ?_)
  · replace h := z_ip c7 h
    obtain rfl := z_some h
    refine v_sub [] rfl ?_
    exact hk
  · replace h := z_in c7 h
    refine v_bipush o (10 : Int32) dX11_readImages_65 (by decide) ?_
    refine v_bipush o (12 : Int32) dX11_readImages_67 (by decide) ?_
    refine v_iload_n o dX11_readImages_69 rfl 2 rfl ?_
    refine v_imul o dX11_readImages_70 ?_
    refine v_iadd o dX11_readImages_71 ?_
    refine v_istore o [(4, .int ((10 : Int32) + ((12 : Int32) * a3))), (0, .ref (z_w q a0)), (2, .int a2), (3, .int a3)] dX11_readImages_72 (by decide) rfl ?_
    refine v_aload_n o dX11_readImages_74 rfl 1 rfl ?_
    obtain ⟨n8, h⟩ := z_gK_of h
    refine gt_11_38 o hK0 ln_5_133 (by rw [n8]; decide) dX11_readImages_75 ?_
    refine v_iload_n o dX11_readImages_78 rfl 3 rfl ?_
    refine v_aload_n o dX11_readImages_79 rfl 1 rfl ?_
    refine v_iload o dX11_readImages_80 0 rfl ?_
    refine v_iconst o (2 : Int32) dX11_readImages_82 (by decide) ?_
    obtain ⟨r10, he9, h⟩ := z_bind h
    refine v_callV o yw_X11_docWide ln_6_145 wi_X11_docWide ws_X11_docWide hX (by decide) 11 rfl hK0 (As := [.int ((10 : Int32) + ((12 : Int32) * a3)), .int (2 : Int32)]) rfl rfl (Nat.le_of_ble_eq_true rfl) (e_X11_docWide hK0 he9) dX11_readImages_83 ?_
    obtain ⟨n11, n12, h⟩ := z_gA_of h
    refine v_iast o n11 n12 dX11_readImages_86 ?_
    refine v_aload_n o dX11_readImages_87 rfl 1 rfl ?_
    obtain ⟨n13, h⟩ := z_gK_of h
    refine gt_11_39 o hK0 ln_5_134 (by rw [n13]; decide) dX11_readImages_88 ?_
    refine v_iload_n o dX11_readImages_91 rfl 3 rfl ?_
    refine v_aload_n o dX11_readImages_92 rfl 1 rfl ?_
    refine v_iload o dX11_readImages_93 0 rfl ?_
    refine v_iconst o (2 : Int32) dX11_readImages_95 (by decide) ?_
    refine v_iadd o dX11_readImages_96 ?_
    refine v_iconst o (2 : Int32) dX11_readImages_97 (by decide) ?_
    obtain ⟨r15, he14, h⟩ := z_bind h
    refine v_callV o yw_X11_docWide ln_6_145 wi_X11_docWide ws_X11_docWide hX (by decide) 11 rfl hK0 (As := [.int (((10 : Int32) + ((12 : Int32) * a3)) + (2 : Int32)), .int (2 : Int32)]) rfl rfl (Nat.le_of_ble_eq_true rfl) (e_X11_docWide hK0 he14) dX11_readImages_98 ?_
    obtain ⟨n16, n17, h⟩ := z_gA_of h
    refine v_iast o n16 n17 dX11_readImages_101 ?_
    refine v_aload_n o dX11_readImages_102 rfl 1 rfl ?_
    obtain ⟨n18, h⟩ := z_gK_of h
    refine gt_11_40 o hK0 ln_5_135 (by rw [n18]; decide) dX11_readImages_103 ?_
    refine v_iload_n o dX11_readImages_106 rfl 3 rfl ?_
    refine v_aload_n o dX11_readImages_107 rfl 1 rfl ?_
    refine v_iload o dX11_readImages_108 0 rfl ?_
    refine v_iconst o (4 : Int32) dX11_readImages_110 (by decide) ?_
    refine v_iadd o dX11_readImages_111 ?_
    obtain ⟨r20, he19, h⟩ := z_bind h
    refine v_callV o yw_X11_docLong ln_6_162 wi_X11_docLong ws_X11_docLong hX (by decide) 11 rfl hK0 (As := [.int (((10 : Int32) + ((12 : Int32) * a3)) + (4 : Int32))]) rfl rfl (Nat.le_of_ble_eq_true rfl) (e_X11_docLong hK0 he19) dX11_readImages_112 ?_
    obtain ⟨n21, n22, h⟩ := z_gA_of h
    refine v_last o n21 n22 dX11_readImages_115 ?_
    refine v_aload_n o dX11_readImages_116 rfl 1 rfl ?_
    refine gt_11_38 o hK0 ln_5_133 (by rw [n8]; decide) dX11_readImages_117 ?_
    refine v_iload_n o dX11_readImages_120 rfl 3 rfl ?_
    obtain ⟨n23, n24, h⟩ := z_gA_of h
    refine v_iald o n23 n24 dX11_readImages_121 ?_
    refine v_iload_n o dX11_readImages_122 rfl 2 rfl ?_
    refine v_icmp_le o 148 dX11_readImages_123 (by decide) (fun c25 => ?_) (fun c25 => ?_)
    · replace h := z_ip c25 h
      obtain rfl := z_some h
      refine v_sub [] rfl ?_
      exact hk
    · replace h := z_in c25 h
      refine v_aload_n o dX11_readImages_126 rfl 1 rfl ?_
      refine gt_11_39 o hK0 ln_5_134 (by rw [n13]; decide) dX11_readImages_127 ?_
      refine v_iload_n o dX11_readImages_130 rfl 3 rfl ?_
      obtain ⟨n26, n27, h⟩ := z_gA_of h
      refine v_iald o n26 n27 dX11_readImages_131 ?_
      refine v_iconst o (1 : Int32) dX11_readImages_132 (by decide) ?_
      refine v_icmp_lt o 148 dX11_readImages_133 (by decide) (fun c28 => ?_) (fun c28 => ?_)
      · replace h := z_ip c28 h
        obtain rfl := z_some h
        refine v_sub [] rfl ?_
        exact hk
      · replace h := z_in c28 h
        refine v_aload_n o dX11_readImages_136 rfl 1 rfl ?_
        refine gt_11_39 o hK0 ln_5_134 (by rw [n13]; decide) dX11_readImages_137 ?_
        refine v_iload_n o dX11_readImages_140 rfl 3 rfl ?_
        obtain ⟨n29, n30, h⟩ := z_gA_of h
        refine v_iald o n29 n30 dX11_readImages_141 ?_
        refine v_sipush o (1024 : Int32) dX11_readImages_142 (by decide) ?_
        refine v_icmp_le o 150 dX11_readImages_145 (by decide) (fun c31 => ?_) (fun c31 => ?_)
        · replace h := z_ip c31 h
          refine v_aload_n o dX11_readImages_150 rfl 1 rfl ?_
          refine gt_11_38 o hK0 ln_5_133 (by rw [n8]; decide) dX11_readImages_151 ?_
          refine v_iload_n o dX11_readImages_154 rfl 3 rfl ?_
          obtain ⟨n32, n33, h⟩ := z_gA_of h
          refine v_iald o n32 n33 dX11_readImages_155 ?_
          refine v_istore_n o [(2, .int (z_U (z_sY (z_sU (z_sU D (z_R G 1138 a0) (a3).toNatClampNeg r10) (z_R G 1139 a0) (a3).toNatClampNeg r15) (z_R G 1140 a0) (a3).toNatClampNeg r20) (z_R G 1138 a0) (a3).toNatClampNeg)), (4, .int ((10 : Int32) + ((12 : Int32) * a3))), (0, .ref (z_w q a0)), (3, .int a3)] dX11_readImages_156 rfl (by decide) rfl ?_
          refine v_iinc o (a3 + (1 : Int32)) [(3, .int (a3 + (1 : Int32))), (2, .int (z_U (z_sY (z_sU (z_sU D (z_R G 1138 a0) (a3).toNatClampNeg r10) (z_R G 1139 a0) (a3).toNatClampNeg r15) (z_R G 1140 a0) (a3).toNatClampNeg r20) (z_R G 1138 a0) (a3).toNatClampNeg)), (4, .int ((10 : Int32) + ((12 : Int32) * a3))), (0, .ref (z_w q a0))] dX11_readImages_157 3 rfl rfl (by decide) rfl ?_
          refine v_goto o 57 dX11_readImages_160 (by decide) ?_
          obtain rfl := z_some h
          refine v_sub [3, 1, 0] rfl ?_
          exact hk
        · replace h := z_in c31 h
          obtain rfl := z_some h
          refine v_sub [] rfl ?_
          exact hk
def f_X11_readImages (G : z_G) (D : z_D) (a0 : Nat) : Option (Int32 × z_D) :=
  (if (7 : Int32) ≤ (z_I D 1129 a0) then (z_gK G 1 (z_R G 1125 a0) (z_gA G 1 (z_R G 1125 a0) (9 : Int32) ((if (4 : Int32) < (z_I (z_sI D 1137 a0 (z_U D (z_R G 1125 a0) ((9 : Int32)).toNatClampNeg)) 1137 a0) then ((some ((0 : Int32), (z_sI D 1137 a0 (z_U D (z_R G 1125 a0) ((9 : Int32)).toNatClampNeg))))) else ((if ((10 : Int32) + ((12 : Int32) * (z_I (z_sI D 1137 a0 (z_U D (z_R G 1125 a0) ((9 : Int32)).toNatClampNeg)) 1137 a0))) = ((3 : Int32) + (z_I D 1129 a0)) then (((z_loop (fun v => c_X11_readImages_57 G v.1 a0 v.2.1 v.2.2) 4000 ((z_sI D 1137 a0 (z_U D (z_R G 1125 a0) ((9 : Int32)).toNatClampNeg)), (0 : Int32), (0 : Int32))).bind (Sum.elim (fun e34 => (some ((0 : Int32), e34))) (fun e34 => (some ((1 : Int32), e34)))))) else ((some ((0 : Int32), (z_sI D 1137 a0 (z_U D (z_R G 1125 a0) ((9 : Int32)).toNatClampNeg))))))))))) else ((some ((0 : Int32), D))))
set_option maxRecDepth 100000 in
set_option maxHeartbeats 4000000 in
theorem b_X11_readImages {q : z_Q} {X : z_X} {G : z_G} {D : z_D} {a0 : Nat} {r : Int32} {D1 : z_D} (o : z_O q X cX11_readImages 5 "FlashTrustModel" "readImages" (some .boolean)) (hX : x_R X = z_rm 2 0 0) (hK0 : z_K G a0 = 111) (h : f_X11_readImages G D a0 = some (r, D1)) : z_V q X 5 (z_F q X (some (.int r)) G D1 0 0) 0 0 G D 0 [(0, .ref (z_w q a0))] [] := by
  unfold f_X11_readImages at h
  refine v_iconst o (3 : Int32) dX11_readImages_0 (by decide) ?_
  refine v_aload_n o dX11_readImages_1 rfl 0 rfl ?_
  refine gt_11_29 o hK0 ln_5_124 dX11_readImages_2 ?_
  refine v_iadd o dX11_readImages_5 ?_
  refine v_istore_n o [(1, .int ((3 : Int32) + (z_I D 1129 a0))), (0, .ref (z_w q a0))] dX11_readImages_6 rfl (by decide) rfl ?_
  refine v_aload_n o dX11_readImages_7 rfl 1 rfl ?_
  refine gt_11_29 o hK0 ln_5_124 dX11_readImages_8 ?_
  refine v_bipush o (7 : Int32) dX11_readImages_11 (by decide) ?_
  refine v_icmp_ge o 18 dX11_readImages_13 (by decide) (fun c1 => ?_) (fun c1 => ?_)
  · replace h := z_ip c1 h
    refine v_aload_n o dX11_readImages_18 rfl 1 rfl ?_
    refine v_aload_n o dX11_readImages_19 rfl 1 rfl ?_
    obtain ⟨n2, h⟩ := z_gK_of h
    refine gt_11_25 o hK0 ln_5_120 (by rw [n2]; decide) dX11_readImages_20 ?_
    refine v_bipush o (9 : Int32) dX11_readImages_23 (by decide) ?_
    obtain ⟨n3, n4, h⟩ := z_gA_of h
    refine v_iald o n3 n4 dX11_readImages_25 ?_
    refine pt_11_37 o hK0 ln_5_132 dX11_readImages_26 ?_
    refine v_aload_n o dX11_readImages_29 rfl 1 rfl ?_
    refine gt_11_37 o hK0 ln_5_132 dX11_readImages_30 ?_
    refine v_iconst o (4 : Int32) dX11_readImages_33 (by decide) ?_
    refine v_icmp_gt o 51 dX11_readImages_34 (by decide) (fun c5 => ?_) (fun c5 => ?_)
    · replace h := z_ip c5 h
      refine v_iconst o (0 : Int32) dX11_readImages_51 (by decide) ?_
      obtain ⟨hr, hs⟩ := Prod.mk.inj (z_some h)
      subst hr
      subst hs
      exact v_zreturn o (by decide) dX11_readImages_52
    · replace h := z_in c5 h
      refine v_bipush o (10 : Int32) dX11_readImages_37 (by decide) ?_
      refine v_bipush o (12 : Int32) dX11_readImages_39 (by decide) ?_
      refine v_aload_n o dX11_readImages_41 rfl 1 rfl ?_
      refine gt_11_37 o hK0 ln_5_132 dX11_readImages_42 ?_
      refine v_imul o dX11_readImages_45 ?_
      refine v_iadd o dX11_readImages_46 ?_
      refine v_iload_n o dX11_readImages_47 rfl 0 rfl ?_
      refine v_icmp_eq o 53 dX11_readImages_48 (by decide) (fun c6 => ?_) (fun c6 => ?_)
      · replace h := z_ip c6 h
        refine v_iconst o (0 : Int32) dX11_readImages_53 (by decide) ?_
        refine v_istore_n o [(2, .int (0 : Int32)), (1, .int ((3 : Int32) + (z_I D 1129 a0))), (0, .ref (z_w q a0))] dX11_readImages_54 rfl (by decide) rfl ?_
        refine v_iconst o (0 : Int32) dX11_readImages_55 (by decide) ?_
        refine v_istore_n o [(3, .int (0 : Int32)), (2, .int (0 : Int32)), (1, .int ((3 : Int32) + (z_I D 1129 a0))), (0, .ref (z_w q a0))] dX11_readImages_56 rfl (by decide) rfl ?_
        refine v_sub [3, 1, 0] rfl ?_
        obtain ⟨e34, he35, h⟩ := z_bind h
        refine z_loopV (P := p_X11_readImages_57 q X _ G a0) (E := x_X11_readImages_57 q X _ G a0) (fun v ρ hb hk => tc_X11_readImages_57 (D := v.1) (a0 := a0) (a2 := v.2.1) (a3 := v.2.2) o hX hK0 hb hk) 4000 _ e34 he35 ?_
        rcases e34 with e34 | e34
        · replace h := z_el h
          show z_V q X 5 _ _ _ G e34 148 [] []
          refine v_iconst o (0 : Int32) dX11_readImages_148 (by decide) ?_
          obtain ⟨hr, hs⟩ := Prod.mk.inj (z_some h)
          subst hr
          subst hs
          exact v_zreturn o (by decide) dX11_readImages_149
        · replace h := z_er h
          show z_V q X 5 _ _ _ G e34 163 [] []
          refine v_iconst o (1 : Int32) dX11_readImages_163 (by decide) ?_
          obtain ⟨hr, hs⟩ := Prod.mk.inj (z_some h)
          subst hr
          subst hs
          exact v_zreturn o (by decide) dX11_readImages_164
      · replace h := z_in c6 h
        refine v_iconst o (0 : Int32) dX11_readImages_51 (by decide) ?_
        obtain ⟨hr, hs⟩ := Prod.mk.inj (z_some h)
        subst hr
        subst hs
        exact v_zreturn o (by decide) dX11_readImages_52
  · replace h := z_in c1 h
    refine v_iconst o (0 : Int32) dX11_readImages_16 (by decide) ?_
    obtain ⟨hr, hs⟩ := Prod.mk.inj (z_some h)
    subst hr
    subst hs
    exact v_zreturn o (by decide) dX11_readImages_17
theorem e_X11_readImages {q : z_Q} {l : Launch} {G : z_G} {D : z_D} {a0 : Nat} {r : Int32} {D1 : z_D} (hK0 : z_K G a0 = 111) (h : f_X11_readImages G D a0 = some (r, D1)) : z_E q l yX11_readImages cX11_readImages 5 (some .boolean) 2 0 0 [.ref (z_w q a0)] G D (some (.int r)) G D1 :=
  z_E.of (by decide) (Nat.le_of_ble_eq_true rfl) (fun X hX _ o => b_X11_readImages o hX hK0 h)
def f_X11_readDoc (G : z_G) (D : z_D) (a0 : Nat) : Option (Int32 × z_D) :=
  (if (10 : Int32) ≤ (z_I D 1126 a0) then (z_gK G 1 (z_R G 1125 a0) (z_gA G 1 (z_R G 1125 a0) (0 : Int32) ((f_X11_docWide G (z_sI (z_sI D 1127 a0 (z_U D (z_R G 1125 a0) ((0 : Int32)).toNatClampNeg)) 1128 a0 (3 : Int32)) a0 (1 : Int32) (2 : Int32)).bind (fun r6 => ((if (3 : Int32) < (z_I (z_sI (z_sI (z_sI D 1127 a0 (z_U D (z_R G 1125 a0) ((0 : Int32)).toNatClampNeg)) 1128 a0 (3 : Int32)) 1129 a0 r6) 1127 a0) then ((some ((0 : Int32), (z_sI (z_sI (z_sI D 1127 a0 (z_U D (z_R G 1125 a0) ((0 : Int32)).toNatClampNeg)) 1128 a0 (3 : Int32)) 1129 a0 r6)))) else ((if (z_I (z_sI (z_sI (z_sI D 1127 a0 (z_U D (z_R G 1125 a0) ((0 : Int32)).toNatClampNeg)) 1128 a0 (3 : Int32)) 1129 a0 r6) 1129 a0) < (6 : Int32) then ((some ((0 : Int32), (z_sI (z_sI (z_sI D 1127 a0 (z_U D (z_R G 1125 a0) ((0 : Int32)).toNatClampNeg)) 1128 a0 (3 : Int32)) 1129 a0 r6)))) else ((if (z_I (z_sI (z_sI (z_sI D 1127 a0 (z_U D (z_R G 1125 a0) ((0 : Int32)).toNatClampNeg)) 1128 a0 (3 : Int32)) 1129 a0 r6) 1126 a0) ≤ ((3 : Int32) + (z_I (z_sI (z_sI (z_sI D 1127 a0 (z_U D (z_R G 1125 a0) ((0 : Int32)).toNatClampNeg)) 1128 a0 (3 : Int32)) 1129 a0 r6) 1129 a0)) then ((some ((0 : Int32), (z_sI (z_sI (z_sI D 1127 a0 (z_U D (z_R G 1125 a0) ((0 : Int32)).toNatClampNeg)) 1128 a0 (3 : Int32)) 1129 a0 r6)))) else (z_gA G 1 (z_R G 1125 a0) ((3 : Int32) + (z_I (z_sI (z_sI (z_sI D 1127 a0 (z_U D (z_R G 1125 a0) ((0 : Int32)).toNatClampNeg)) 1128 a0 (3 : Int32)) 1129 a0 r6) 1129 a0)) ((if (z_I (z_sI (z_sI (z_sI D 1127 a0 (z_U D (z_R G 1125 a0) ((0 : Int32)).toNatClampNeg)) 1128 a0 (3 : Int32)) 1129 a0 r6) 1126 a0) = ((((3 : Int32) + (z_I (z_sI (z_sI (z_sI D 1127 a0 (z_U D (z_R G 1125 a0) ((0 : Int32)).toNatClampNeg)) 1128 a0 (3 : Int32)) 1129 a0 r6) 1129 a0)) + (1 : Int32)) + (z_U (z_sI (z_sI (z_sI D 1127 a0 (z_U D (z_R G 1125 a0) ((0 : Int32)).toNatClampNeg)) 1128 a0 (3 : Int32)) 1129 a0 r6) (z_R G 1125 a0) (((3 : Int32) + (z_I (z_sI (z_sI (z_sI D 1127 a0 (z_U D (z_R G 1125 a0) ((0 : Int32)).toNatClampNeg)) 1128 a0 (3 : Int32)) 1129 a0 r6) 1129 a0))).toNatClampNeg)) then (z_gA G 1 (z_R G 1125 a0) ((3 : Int32) + (z_I (z_sI (z_sI (z_sI D 1127 a0 (z_U D (z_R G 1125 a0) ((0 : Int32)).toNatClampNeg)) 1128 a0 (3 : Int32)) 1129 a0 r6) 1129 a0)) ((f_X11_keysAt G (z_sI (z_sI (z_sI D 1127 a0 (z_U D (z_R G 1125 a0) ((0 : Int32)).toNatClampNeg)) 1128 a0 (3 : Int32)) 1129 a0 r6) a0 (((3 : Int32) + (z_I (z_sI (z_sI (z_sI D 1127 a0 (z_U D (z_R G 1125 a0) ((0 : Int32)).toNatClampNeg)) 1128 a0 (3 : Int32)) 1129 a0 r6) 1129 a0)) + (1 : Int32)) (z_U (z_sI (z_sI (z_sI D 1127 a0 (z_U D (z_R G 1125 a0) ((0 : Int32)).toNatClampNeg)) 1128 a0 (3 : Int32)) 1129 a0 r6) (z_R G 1125 a0) (((3 : Int32) + (z_I (z_sI (z_sI (z_sI D 1127 a0 (z_U D (z_R G 1125 a0) ((0 : Int32)).toNatClampNeg)) 1128 a0 (3 : Int32)) 1129 a0 r6) 1129 a0))).toNatClampNeg)).bind (fun r16 => ((f_X11_docWide G (z_sI (z_sI (z_sI (z_sI D 1127 a0 (z_U D (z_R G 1125 a0) ((0 : Int32)).toNatClampNeg)) 1128 a0 (3 : Int32)) 1129 a0 r6) 1130 a0 r16) a0 (3 : Int32) (2 : Int32)).bind (fun r18 => ((f_X11_docWide G (z_sI (z_sI (z_sI (z_sI (z_sI D 1127 a0 (z_U D (z_R G 1125 a0) ((0 : Int32)).toNatClampNeg)) 1128 a0 (3 : Int32)) 1129 a0 r6) 1130 a0 r16) 1131 a0 r18) a0 (5 : Int32) (4 : Int32)).bind (fun r20 => ((if (z_I (z_sJ (z_sI (z_sI (z_sI (z_sI (z_sI D 1127 a0 (z_U D (z_R G 1125 a0) ((0 : Int32)).toNatClampNeg)) 1128 a0 (3 : Int32)) 1129 a0 r6) 1130 a0 r16) 1131 a0 r18) 1132 a0 ((r20).toInt64 &&& (4294967295 : Int64))) 1130 a0) < (0 : Int32) then ((some ((0 : Int32), (z_sJ (z_sI (z_sI (z_sI (z_sI (z_sI D 1127 a0 (z_U D (z_R G 1125 a0) ((0 : Int32)).toNatClampNeg)) 1128 a0 (3 : Int32)) 1129 a0 r6) 1130 a0 r16) 1131 a0 r18) 1132 a0 ((r20).toInt64 &&& (4294967295 : Int64)))))) else ((if (1 : Int32) ≤ (z_I (z_sJ (z_sI (z_sI (z_sI (z_sI (z_sI D 1127 a0 (z_U D (z_R G 1125 a0) ((0 : Int32)).toNatClampNeg)) 1128 a0 (3 : Int32)) 1129 a0 r6) 1130 a0 r16) 1131 a0 r18) 1132 a0 ((r20).toInt64 &&& (4294967295 : Int64))) 1131 a0) then ((if (z_I (z_sJ (z_sI (z_sI (z_sI (z_sI (z_sI D 1127 a0 (z_U D (z_R G 1125 a0) ((0 : Int32)).toNatClampNeg)) 1128 a0 (3 : Int32)) 1129 a0 r6) 1130 a0 r16) 1131 a0 r18) 1132 a0 ((r20).toInt64 &&& (4294967295 : Int64))) 1127 a0) = (0 : Int32) then ((f_X11_readRoles G (z_sJ (z_sI (z_sI (z_sI (z_sI (z_sI D 1127 a0 (z_U D (z_R G 1125 a0) ((0 : Int32)).toNatClampNeg)) 1128 a0 (3 : Int32)) 1129 a0 r6) 1130 a0 r16) 1131 a0 r18) 1132 a0 ((r20).toInt64 &&& (4294967295 : Int64))) a0).bind (fun p35 => (z_gB p35.1 ((some (p35.1, p35.2)))))) else ((if (z_I (z_sJ (z_sI (z_sI (z_sI (z_sI (z_sI D 1127 a0 (z_U D (z_R G 1125 a0) ((0 : Int32)).toNatClampNeg)) 1128 a0 (3 : Int32)) 1129 a0 r6) 1130 a0 r16) 1131 a0 r18) 1132 a0 ((r20).toInt64 &&& (4294967295 : Int64))) 1127 a0) = (3 : Int32) then ((f_X11_readImages G (z_sJ (z_sI (z_sI (z_sI (z_sI (z_sI D 1127 a0 (z_U D (z_R G 1125 a0) ((0 : Int32)).toNatClampNeg)) 1128 a0 (3 : Int32)) 1129 a0 r6) 1130 a0 r16) 1131 a0 r18) 1132 a0 ((r20).toInt64 &&& (4294967295 : Int64))) a0).bind (fun p32 => (z_gB p32.1 ((some (p32.1, p32.2)))))) else ((if (z_I (z_sJ (z_sI (z_sI (z_sI (z_sI (z_sI D 1127 a0 (z_U D (z_R G 1125 a0) ((0 : Int32)).toNatClampNeg)) 1128 a0 (3 : Int32)) 1129 a0 r6) 1130 a0 r16) 1131 a0 r18) 1132 a0 ((r20).toInt64 &&& (4294967295 : Int64))) 1129 a0) = (16 : Int32) then ((f_X11_docWide G (z_sJ (z_sI (z_sI (z_sI (z_sI (z_sI D 1127 a0 (z_U D (z_R G 1125 a0) ((0 : Int32)).toNatClampNeg)) 1128 a0 (3 : Int32)) 1129 a0 r6) 1130 a0 r16) 1131 a0 r18) 1132 a0 ((r20).toInt64 &&& (4294967295 : Int64))) a0 (9 : Int32) (2 : Int32)).bind (fun r27 => ((f_X11_docLong G (z_sI (z_sJ (z_sI (z_sI (z_sI (z_sI (z_sI D 1127 a0 (z_U D (z_R G 1125 a0) ((0 : Int32)).toNatClampNeg)) 1128 a0 (3 : Int32)) 1129 a0 r6) 1130 a0 r16) 1131 a0 r18) 1132 a0 ((r20).toInt64 &&& (4294967295 : Int64))) 1135 a0 r27) a0 (11 : Int32)).bind (fun r29 => ((if (z_I (z_sJ (z_sI (z_sJ (z_sI (z_sI (z_sI (z_sI (z_sI D 1127 a0 (z_U D (z_R G 1125 a0) ((0 : Int32)).toNatClampNeg)) 1128 a0 (3 : Int32)) 1129 a0 r6) 1130 a0 r16) 1131 a0 r18) 1132 a0 ((r20).toInt64 &&& (4294967295 : Int64))) 1135 a0 r27) 1136 a0 r29) 1135 a0) < (1 : Int32) then ((some ((0 : Int32), (z_sJ (z_sI (z_sJ (z_sI (z_sI (z_sI (z_sI (z_sI D 1127 a0 (z_U D (z_R G 1125 a0) ((0 : Int32)).toNatClampNeg)) 1128 a0 (3 : Int32)) 1129 a0 r6) 1130 a0 r16) 1131 a0 r18) 1132 a0 ((r20).toInt64 &&& (4294967295 : Int64))) 1135 a0 r27) 1136 a0 r29)))) else (((some ((1 : Int32), (z_sJ (z_sI (z_sJ (z_sI (z_sI (z_sI (z_sI (z_sI D 1127 a0 (z_U D (z_R G 1125 a0) ((0 : Int32)).toNatClampNeg)) 1128 a0 (3 : Int32)) 1129 a0 r6) 1130 a0 r16) 1131 a0 r18) 1132 a0 ((r20).toInt64 &&& (4294967295 : Int64))) 1135 a0 r27) 1136 a0 r29))))))))))) else ((some ((0 : Int32), (z_sJ (z_sI (z_sI (z_sI (z_sI (z_sI D 1127 a0 (z_U D (z_R G 1125 a0) ((0 : Int32)).toNatClampNeg)) 1128 a0 (3 : Int32)) 1129 a0 r6) 1130 a0 r16) 1131 a0 r18) 1132 a0 ((r20).toInt64 &&& (4294967295 : Int64)))))))))))) else ((some ((0 : Int32), (z_sJ (z_sI (z_sI (z_sI (z_sI (z_sI D 1127 a0 (z_U D (z_R G 1125 a0) ((0 : Int32)).toNatClampNeg)) 1128 a0 (3 : Int32)) 1129 a0 r6) 1130 a0 r16) 1131 a0 r18) 1132 a0 ((r20).toInt64 &&& (4294967295 : Int64))))))))))))))))) else ((some ((0 : Int32), (z_sI (z_sI (z_sI D 1127 a0 (z_U D (z_R G 1125 a0) ((0 : Int32)).toNatClampNeg)) 1128 a0 (3 : Int32)) 1129 a0 r6))))))))))))))))) else ((some ((0 : Int32), D))))
set_option maxRecDepth 100000 in
set_option maxHeartbeats 4000000 in
theorem b_X11_readDoc {q : z_Q} {X : z_X} {G : z_G} {D : z_D} {a0 : Nat} {r : Int32} {D1 : z_D} (o : z_O q X cX11_readDoc 2 "FlashTrustModel" "readDoc" (some .boolean)) (hX : x_R X = z_rm 3 0 0) (hK0 : z_K G a0 = 111) (h : f_X11_readDoc G D a0 = some (r, D1)) : z_V q X 2 (z_F q X (some (.int r)) G D1 0 0) 0 0 G D 0 [(0, .ref (z_w q a0))] [] := by
  unfold f_X11_readDoc at h
  refine v_aload_n o dX11_readDoc_0 rfl 0 rfl ?_
  refine gt_11_26 o hK0 ln_5_121 dX11_readDoc_1 ?_
  refine v_bipush o (10 : Int32) dX11_readDoc_4 (by decide) ?_
  refine v_icmp_ge o 11 dX11_readDoc_6 (by decide) (fun c1 => ?_) (fun c1 => ?_)
  · replace h := z_ip c1 h
    refine v_aload_n o dX11_readDoc_11 rfl 0 rfl ?_
    refine v_aload_n o dX11_readDoc_12 rfl 0 rfl ?_
    obtain ⟨n2, h⟩ := z_gK_of h
    refine gt_11_25 o hK0 ln_5_120 (by rw [n2]; decide) dX11_readDoc_13 ?_
    refine v_iconst o (0 : Int32) dX11_readDoc_16 (by decide) ?_
    obtain ⟨n3, n4, h⟩ := z_gA_of h
    refine v_iald o n3 n4 dX11_readDoc_17 ?_
    refine pt_11_27 o hK0 ln_5_122 dX11_readDoc_18 ?_
    refine v_aload_n o dX11_readDoc_21 rfl 0 rfl ?_
    refine v_iconst o (3 : Int32) dX11_readDoc_22 (by decide) ?_
    refine pt_11_28 o hK0 ln_5_123 dX11_readDoc_23 ?_
    refine v_aload_n o dX11_readDoc_26 rfl 0 rfl ?_
    refine v_aload_n o dX11_readDoc_27 rfl 0 rfl ?_
    refine v_iconst o (1 : Int32) dX11_readDoc_28 (by decide) ?_
    refine v_iconst o (2 : Int32) dX11_readDoc_29 (by decide) ?_
    obtain ⟨r6, he5, h⟩ := z_bind h
    refine v_callV o yw_X11_docWide ln_6_145 wi_X11_docWide ws_X11_docWide hX (by decide) 11 rfl hK0 (As := [.int (1 : Int32), .int (2 : Int32)]) rfl rfl (Nat.le_of_ble_eq_true rfl) (e_X11_docWide hK0 he5) dX11_readDoc_30 ?_
    refine pt_11_29 o hK0 ln_5_124 dX11_readDoc_33 ?_
    refine v_iconst o (3 : Int32) dX11_readDoc_36 (by decide) ?_
    refine v_aload_n o dX11_readDoc_37 rfl 0 rfl ?_
    refine gt_11_29 o hK0 ln_5_124 dX11_readDoc_38 ?_
    refine v_iadd o dX11_readDoc_41 ?_
    refine v_istore_n o [(1, .int ((3 : Int32) + (z_I (z_sI (z_sI (z_sI D 1127 a0 (z_U D (z_R G 1125 a0) ((0 : Int32)).toNatClampNeg)) 1128 a0 (3 : Int32)) 1129 a0 r6) 1129 a0))), (0, .ref (z_w q a0))] dX11_readDoc_42 rfl (by decide) rfl ?_
    refine v_aload_n o dX11_readDoc_43 rfl 1 rfl ?_
    refine gt_11_27 o hK0 ln_5_122 dX11_readDoc_44 ?_
    refine v_iconst o (3 : Int32) dX11_readDoc_47 (by decide) ?_
    refine v_icmp_gt o 85 dX11_readDoc_48 (by decide) (fun c7 => ?_) (fun c7 => ?_)
    · replace h := z_ip c7 h
      refine v_iconst o (0 : Int32) dX11_readDoc_85 (by decide) ?_
      obtain ⟨hr, hs⟩ := Prod.mk.inj (z_some h)
      subst hr
      subst hs
      exact v_zreturn o (by decide) dX11_readDoc_86
    · replace h := z_in c7 h
      refine v_aload_n o dX11_readDoc_51 rfl 1 rfl ?_
      refine gt_11_29 o hK0 ln_5_124 dX11_readDoc_52 ?_
      refine v_bipush o (6 : Int32) dX11_readDoc_55 (by decide) ?_
      refine v_icmp_lt o 85 dX11_readDoc_57 (by decide) (fun c8 => ?_) (fun c8 => ?_)
      · replace h := z_ip c8 h
        refine v_iconst o (0 : Int32) dX11_readDoc_85 (by decide) ?_
        obtain ⟨hr, hs⟩ := Prod.mk.inj (z_some h)
        subst hr
        subst hs
        exact v_zreturn o (by decide) dX11_readDoc_86
      · replace h := z_in c8 h
        refine v_iload_n o dX11_readDoc_60 rfl 0 rfl ?_
        refine v_aload_n o dX11_readDoc_61 rfl 1 rfl ?_
        refine gt_11_26 o hK0 ln_5_121 dX11_readDoc_62 ?_
        refine v_icmp_ge o 85 dX11_readDoc_65 (by decide) (fun c9 => ?_) (fun c9 => ?_)
        · replace h := z_ip c9 h
          refine v_iconst o (0 : Int32) dX11_readDoc_85 (by decide) ?_
          obtain ⟨hr, hs⟩ := Prod.mk.inj (z_some h)
          subst hr
          subst hs
          exact v_zreturn o (by decide) dX11_readDoc_86
        · replace h := z_in c9 h
          refine v_aload_n o dX11_readDoc_68 rfl 1 rfl ?_
          refine gt_11_26 o hK0 ln_5_121 dX11_readDoc_69 ?_
          refine v_iload_n o dX11_readDoc_72 rfl 0 rfl ?_
          refine v_iconst o (1 : Int32) dX11_readDoc_73 (by decide) ?_
          refine v_iadd o dX11_readDoc_74 ?_
          refine v_aload_n o dX11_readDoc_75 rfl 1 rfl ?_
          refine gt_11_25 o hK0 ln_5_120 (by rw [n2]; decide) dX11_readDoc_76 ?_
          refine v_iload_n o dX11_readDoc_79 rfl 0 rfl ?_
          obtain ⟨n10, n11, h⟩ := z_gA_of h
          refine v_iald o n10 n11 dX11_readDoc_80 ?_
          refine v_iadd o dX11_readDoc_81 ?_
          refine v_icmp_eq o 87 dX11_readDoc_82 (by decide) (fun c12 => ?_) (fun c12 => ?_)
          · replace h := z_ip c12 h
            refine v_aload_n o dX11_readDoc_87 rfl 1 rfl ?_
            refine v_aload_n o dX11_readDoc_88 rfl 1 rfl ?_
            refine v_iload_n o dX11_readDoc_89 rfl 0 rfl ?_
            refine v_iconst o (1 : Int32) dX11_readDoc_90 (by decide) ?_
            refine v_iadd o dX11_readDoc_91 ?_
            refine v_aload_n o dX11_readDoc_92 rfl 1 rfl ?_
            refine gt_11_25 o hK0 ln_5_120 (by rw [n2]; decide) dX11_readDoc_93 ?_
            refine v_iload_n o dX11_readDoc_96 rfl 0 rfl ?_
            obtain ⟨n13, n14, h⟩ := z_gA_of h
            refine v_iald o n13 n14 dX11_readDoc_97 ?_
            obtain ⟨r16, he15, h⟩ := z_bind h
            refine v_callV o yw_X11_keysAt ln_6_149 wi_X11_keysAt ws_X11_keysAt hX (by decide) 11 rfl hK0 (As := [.int (((3 : Int32) + (z_I (z_sI (z_sI (z_sI D 1127 a0 (z_U D (z_R G 1125 a0) ((0 : Int32)).toNatClampNeg)) 1128 a0 (3 : Int32)) 1129 a0 r6) 1129 a0)) + (1 : Int32)), .int (z_U (z_sI (z_sI (z_sI D 1127 a0 (z_U D (z_R G 1125 a0) ((0 : Int32)).toNatClampNeg)) 1128 a0 (3 : Int32)) 1129 a0 r6) (z_R G 1125 a0) (((3 : Int32) + (z_I (z_sI (z_sI (z_sI D 1127 a0 (z_U D (z_R G 1125 a0) ((0 : Int32)).toNatClampNeg)) 1128 a0 (3 : Int32)) 1129 a0 r6) 1129 a0))).toNatClampNeg)]) rfl rfl (Nat.le_of_ble_eq_true rfl) (e_X11_keysAt hK0 he15) dX11_readDoc_98 ?_
            refine pt_11_30 o hK0 ln_5_125 dX11_readDoc_101 ?_
            refine v_aload_n o dX11_readDoc_104 rfl 1 rfl ?_
            refine v_aload_n o dX11_readDoc_105 rfl 1 rfl ?_
            refine v_iconst o (3 : Int32) dX11_readDoc_106 (by decide) ?_
            refine v_iconst o (2 : Int32) dX11_readDoc_107 (by decide) ?_
            obtain ⟨r18, he17, h⟩ := z_bind h
            refine v_callV o yw_X11_docWide ln_6_145 wi_X11_docWide ws_X11_docWide hX (by decide) 11 rfl hK0 (As := [.int (3 : Int32), .int (2 : Int32)]) rfl rfl (Nat.le_of_ble_eq_true rfl) (e_X11_docWide hK0 he17) dX11_readDoc_108 ?_
            refine pt_11_31 o hK0 ln_5_126 dX11_readDoc_111 ?_
            refine v_aload_n o dX11_readDoc_114 rfl 1 rfl ?_
            refine v_aload_n o dX11_readDoc_115 rfl 1 rfl ?_
            refine v_iconst o (5 : Int32) dX11_readDoc_116 (by decide) ?_
            refine v_iconst o (4 : Int32) dX11_readDoc_117 (by decide) ?_
            obtain ⟨r20, he19, h⟩ := z_bind h
            refine v_callV o yw_X11_docWide ln_6_145 wi_X11_docWide ws_X11_docWide hX (by decide) 11 rfl hK0 (As := [.int (5 : Int32), .int (4 : Int32)]) rfl rfl (Nat.le_of_ble_eq_true rfl) (e_X11_docWide hK0 he19) dX11_readDoc_118 ?_
            refine v_i2l o dX11_readDoc_121 ?_
            refine v_ldc2 o ln_6_153 dX11_readDoc_122 ?_
            refine v_land o dX11_readDoc_125 ?_
            refine pt_11_32 o hK0 ln_5_127 dX11_readDoc_126 ?_
            refine v_aload_n o dX11_readDoc_129 rfl 1 rfl ?_
            refine gt_11_30 o hK0 ln_5_125 dX11_readDoc_130 ?_
            refine v_if_lt o 144 dX11_readDoc_133 (by decide) (fun c21 => ?_) (fun c21 => ?_)
            · replace h := z_ip c21 h
              refine v_iconst o (0 : Int32) dX11_readDoc_144 (by decide) ?_
              obtain ⟨hr, hs⟩ := Prod.mk.inj (z_some h)
              subst hr
              subst hs
              exact v_zreturn o (by decide) dX11_readDoc_145
            · replace h := z_in c21 h
              refine v_aload_n o dX11_readDoc_136 rfl 1 rfl ?_
              refine gt_11_31 o hK0 ln_5_126 dX11_readDoc_137 ?_
              refine v_iconst o (1 : Int32) dX11_readDoc_140 (by decide) ?_
              refine v_icmp_ge o 146 dX11_readDoc_141 (by decide) (fun c22 => ?_) (fun c22 => ?_)
              · replace h := z_ip c22 h
                refine v_aload_n o dX11_readDoc_146 rfl 1 rfl ?_
                refine gt_11_27 o hK0 ln_5_122 dX11_readDoc_147 ?_
                refine v_if_ne o 158 dX11_readDoc_150 (by decide) (fun c23 => ?_) (fun c23 => ?_)
                · replace h := z_in c23 h
                  refine v_aload_n o dX11_readDoc_158 rfl 1 rfl ?_
                  refine gt_11_27 o hK0 ln_5_122 dX11_readDoc_159 ?_
                  refine v_iconst o (3 : Int32) dX11_readDoc_162 (by decide) ?_
                  refine v_icmp_ne o 171 dX11_readDoc_163 (by decide) (fun c24 => ?_) (fun c24 => ?_)
                  · replace h := z_in c24 h
                    refine v_aload_n o dX11_readDoc_171 rfl 1 rfl ?_
                    refine gt_11_29 o hK0 ln_5_124 dX11_readDoc_172 ?_
                    refine v_bipush o (16 : Int32) dX11_readDoc_175 (by decide) ?_
                    refine v_icmp_eq o 182 dX11_readDoc_177 (by decide) (fun c25 => ?_) (fun c25 => ?_)
                    · replace h := z_ip c25 h
                      refine v_aload_n o dX11_readDoc_182 rfl 1 rfl ?_
                      refine v_aload_n o dX11_readDoc_183 rfl 1 rfl ?_
                      refine v_bipush o (9 : Int32) dX11_readDoc_184 (by decide) ?_
                      refine v_iconst o (2 : Int32) dX11_readDoc_186 (by decide) ?_
                      obtain ⟨r27, he26, h⟩ := z_bind h
                      refine v_callV o yw_X11_docWide ln_6_145 wi_X11_docWide ws_X11_docWide hX (by decide) 11 rfl hK0 (As := [.int (9 : Int32), .int (2 : Int32)]) rfl rfl (Nat.le_of_ble_eq_true rfl) (e_X11_docWide hK0 he26) dX11_readDoc_187 ?_
                      refine pt_11_35 o hK0 ln_5_130 dX11_readDoc_190 ?_
                      refine v_aload_n o dX11_readDoc_193 rfl 1 rfl ?_
                      refine v_aload_n o dX11_readDoc_194 rfl 1 rfl ?_
                      refine v_bipush o (11 : Int32) dX11_readDoc_195 (by decide) ?_
                      obtain ⟨r29, he28, h⟩ := z_bind h
                      refine v_callV o yw_X11_docLong ln_6_162 wi_X11_docLong ws_X11_docLong hX (by decide) 11 rfl hK0 (As := [.int (11 : Int32)]) rfl rfl (Nat.le_of_ble_eq_true rfl) (e_X11_docLong hK0 he28) dX11_readDoc_197 ?_
                      refine pt_11_36 o hK0 ln_5_131 dX11_readDoc_200 ?_
                      refine v_aload_n o dX11_readDoc_203 rfl 1 rfl ?_
                      refine gt_11_35 o hK0 ln_5_130 dX11_readDoc_204 ?_
                      refine v_iconst o (1 : Int32) dX11_readDoc_207 (by decide) ?_
                      refine v_icmp_lt o 215 dX11_readDoc_208 (by decide) (fun c30 => ?_) (fun c30 => ?_)
                      · replace h := z_ip c30 h
                        refine v_iconst o (0 : Int32) dX11_readDoc_215 (by decide) ?_
                        obtain ⟨hr, hs⟩ := Prod.mk.inj (z_some h)
                        subst hr
                        subst hs
                        exact v_zreturn o (by decide) dX11_readDoc_216
                      · replace h := z_in c30 h
                        refine v_iconst o (1 : Int32) dX11_readDoc_211 (by decide) ?_
                        refine v_goto o 216 dX11_readDoc_212 (by decide) ?_
                        obtain ⟨hr, hs⟩ := Prod.mk.inj (z_some h)
                        subst hr
                        subst hs
                        exact v_zreturn o (by decide) dX11_readDoc_216
                    · replace h := z_in c25 h
                      refine v_iconst o (0 : Int32) dX11_readDoc_180 (by decide) ?_
                      obtain ⟨hr, hs⟩ := Prod.mk.inj (z_some h)
                      subst hr
                      subst hs
                      exact v_zreturn o (by decide) dX11_readDoc_181
                  · replace h := z_ip c24 h
                    refine v_aload_n o dX11_readDoc_166 rfl 1 rfl ?_
                    obtain ⟨p32, he31, h⟩ := z_bind h
                    refine v_callV o yw_X11_readImages ln_6_158 wi_X11_readImages ws_X11_readImages hX (by decide) 11 rfl hK0 (As := []) rfl rfl (Nat.le_of_ble_eq_true rfl) (e_X11_readImages hK0 he31) dX11_readDoc_167 ?_
                    obtain ⟨n33, h⟩ := z_gB_of h
                    obtain ⟨hr, hs⟩ := Prod.mk.inj (z_some h)
                    subst hr
                    subst hs
                    exact v_zreturn o (z_nb n33) dX11_readDoc_170
                · replace h := z_ip c23 h
                  refine v_aload_n o dX11_readDoc_153 rfl 1 rfl ?_
                  obtain ⟨p35, he34, h⟩ := z_bind h
                  refine v_callV o yw_X11_readRoles ln_6_154 wi_X11_readRoles ws_X11_readRoles hX (by decide) 11 rfl hK0 (As := []) rfl rfl (Nat.le_of_ble_eq_true rfl) (e_X11_readRoles hK0 he34) dX11_readDoc_154 ?_
                  obtain ⟨n36, h⟩ := z_gB_of h
                  obtain ⟨hr, hs⟩ := Prod.mk.inj (z_some h)
                  subst hr
                  subst hs
                  exact v_zreturn o (z_nb n36) dX11_readDoc_157
              · replace h := z_in c22 h
                refine v_iconst o (0 : Int32) dX11_readDoc_144 (by decide) ?_
                obtain ⟨hr, hs⟩ := Prod.mk.inj (z_some h)
                subst hr
                subst hs
                exact v_zreturn o (by decide) dX11_readDoc_145
          · replace h := z_in c12 h
            refine v_iconst o (0 : Int32) dX11_readDoc_85 (by decide) ?_
            obtain ⟨hr, hs⟩ := Prod.mk.inj (z_some h)
            subst hr
            subst hs
            exact v_zreturn o (by decide) dX11_readDoc_86
  · replace h := z_in c1 h
    refine v_iconst o (0 : Int32) dX11_readDoc_9 (by decide) ?_
    obtain ⟨hr, hs⟩ := Prod.mk.inj (z_some h)
    subst hr
    subst hs
    exact v_zreturn o (by decide) dX11_readDoc_10
theorem e_X11_readDoc {q : z_Q} {l : Launch} {G : z_G} {D : z_D} {a0 : Nat} {r : Int32} {D1 : z_D} (hK0 : z_K G a0 = 111) (h : f_X11_readDoc G D a0 = some (r, D1)) : z_E q l yX11_readDoc cX11_readDoc 2 (some .boolean) 3 0 0 [.ref (z_w q a0)] G D (some (.int r)) G D1 :=
  z_E.of (by decide) (Nat.le_of_ble_eq_true rfl) (fun X hX _ o => b_X11_readDoc o hX hK0 h)
def p_X11_bodyDigest_6 (q : z_Q) (X : z_X) (Q : State → Prop) (G : z_G) (a0 : Nat) : (z_D × Int32) → Prop := (fun v => z_V q X 2 Q 0 0 G v.1 6 [(0, .ref (z_w q a0)), (1, .int v.2)] [])
def x_X11_bodyDigest_6 (q : z_Q) (X : z_X) (Q : State → Prop) (G : z_G) (a0 : Nat) : z_D → Prop := (fun v => z_V q X 2 Q 0 0 G v 35 [(0, .ref (z_w q a0))] [])
def k_X11_bodyDigest_6 (q : z_Q) (X : z_X) (Q : State → Prop) (G : z_G) (a0 : Nat) : (z_D × Int32) ⊕ z_D → Prop := Sum.elim (p_X11_bodyDigest_6 q X Q G a0) (x_X11_bodyDigest_6 q X Q G a0)
def c_X11_bodyDigest_6 (G : z_G) (D : z_D) (a0 : Nat) (a1 : Int32) : Option ((z_D × Int32) ⊕ z_D) :=
  (if (z_I D 1129 a0) ≤ a1 then (some (.inr D)) else (z_gK G 1 (z_R G 1125 a0) (z_gA G 1 (z_R G 1125 a0) ((z_I D 1128 a0) + a1) ((f_X11_digestByte G D a0 (z_U D (z_R G 1125 a0) (((z_I D 1128 a0) + a1)).toNatClampNeg)).bind (fun D8 => ((some (.inl (D8, (a1 + (1 : Int32)))))))))))
set_option maxRecDepth 100000 in
set_option maxHeartbeats 4000000 in
theorem tc_X11_bodyDigest_6 {q : z_Q} {X : z_X} {G : z_G} {D : z_D} {Q : State → Prop} {a0 : Nat} {a1 : Int32} (o : z_O q X cX11_bodyDigest 2 "FlashTrustModel" "bodyDigest" (some .long)) (hX : x_R X = z_rm 1 0 0) (hK0 : z_K G a0 = 111) {ρ : (z_D × Int32) ⊕ z_D} (h : c_X11_bodyDigest_6 G D a0 a1 = some ρ) (hk : k_X11_bodyDigest_6 q X Q G a0 ρ) : z_V q X 2 Q 0 0 G D 6 [(0, .ref (z_w q a0)), (1, .int a1)] [] := by
  unfold c_X11_bodyDigest_6 at h
  refine v_iload_n o dX11_bodyDigest_6 rfl 1 rfl ?_
  refine v_aload_n o dX11_bodyDigest_7 rfl 0 rfl ?_
  refine gt_11_29 o hK0 ln_5_124 dX11_bodyDigest_8 ?_
  refine v_icmp_ge o 35 dX11_bodyDigest_11 (by decide) (fun c3 => ?_) (fun c3 => ?_)
  · replace h := z_ip c3 h
    obtain rfl := z_some h
    refine v_sub [0] rfl ?_
    exact hk
  · replace h := z_in c3 h
    refine v_aload_n o dX11_bodyDigest_14 rfl 0 rfl ?_
    refine v_aload_n o dX11_bodyDigest_15 rfl 0 rfl ?_
    obtain ⟨n4, h⟩ := z_gK_of h
    refine gt_11_25 o hK0 ln_5_120 (by rw [n4]; decide) dX11_bodyDigest_16 ?_
    refine v_aload_n o dX11_bodyDigest_19 rfl 0 rfl ?_
    refine gt_11_28 o hK0 ln_5_123 dX11_bodyDigest_20 ?_
    refine v_iload_n o dX11_bodyDigest_23 rfl 1 rfl ?_
    refine v_iadd o dX11_bodyDigest_24 ?_
    obtain ⟨n5, n6, h⟩ := z_gA_of h
    refine v_iald o n5 n6 dX11_bodyDigest_25 ?_
    obtain ⟨D8, he7, h⟩ := z_bind h
    refine v_callV o yw_X11_digestByte ln_5_57 wi_X11_digestByte ws_X11_digestByte hX (by decide) 11 rfl hK0 (As := [.int (z_U D (z_R G 1125 a0) (((z_I D 1128 a0) + a1)).toNatClampNeg)]) rfl rfl (Nat.le_of_ble_eq_true rfl) (e_X11_digestByte hK0 he7) dX11_bodyDigest_26 ?_
    refine v_iinc o (a1 + (1 : Int32)) [(1, .int (a1 + (1 : Int32))), (0, .ref (z_w q a0))] dX11_bodyDigest_29 1 rfl rfl (by decide) rfl ?_
    refine v_goto o 6 dX11_bodyDigest_32 (by decide) ?_
    obtain rfl := z_some h
    refine v_sub [1, 0] rfl ?_
    exact hk
def f_X11_bodyDigest (G : z_G) (D : z_D) (a0 : Nat) : Option (Int64 × z_D) :=
  (f_X11_digestBegin G D a0).bind (fun D2 => (((z_loop (fun v => c_X11_bodyDigest_6 G v.1 a0 v.2) 4000 (D2, (0 : Int32))).bind (fun e9 => (some ((z_J e9 1110 a0), e9))))))
set_option maxRecDepth 100000 in
set_option maxHeartbeats 4000000 in
theorem b_X11_bodyDigest {q : z_Q} {X : z_X} {G : z_G} {D : z_D} {a0 : Nat} {r : Int64} {D1 : z_D} (o : z_O q X cX11_bodyDigest 2 "FlashTrustModel" "bodyDigest" (some .long)) (hX : x_R X = z_rm 1 0 0) (hK0 : z_K G a0 = 111) (h : f_X11_bodyDigest G D a0 = some (r, D1)) : z_V q X 2 (z_F q X (some (.long r)) G D1 0 0) 0 0 G D 0 [(0, .ref (z_w q a0))] [] := by
  unfold f_X11_bodyDigest at h
  refine v_aload_n o dX11_bodyDigest_0 rfl 0 rfl ?_
  obtain ⟨D2, he1, h⟩ := z_bind h
  refine v_callV o yw_X11_digestBegin ln_5_52 wi_X11_digestBegin ws_X11_digestBegin hX (by decide) 11 rfl hK0 (As := []) rfl rfl (Nat.le_of_ble_eq_true rfl) (e_X11_digestBegin hK0 he1) dX11_bodyDigest_1 ?_
  refine v_iconst o (0 : Int32) dX11_bodyDigest_4 (by decide) ?_
  refine v_istore_n o [(1, .int (0 : Int32)), (0, .ref (z_w q a0))] dX11_bodyDigest_5 rfl (by decide) rfl ?_
  refine v_sub [1, 0] rfl ?_
  obtain ⟨e9, he10, h⟩ := z_bind h
  refine z_loopV (P := p_X11_bodyDigest_6 q X _ G a0) (E := x_X11_bodyDigest_6 q X _ G a0) (fun v ρ hb hk => tc_X11_bodyDigest_6 (D := v.1) (a0 := a0) (a1 := v.2) o hX hK0 hb hk) 4000 _ e9 he10 ?_
  show z_V q X 2 _ _ _ G e9 35 [(0, .ref (z_w q a0))] []
  refine v_aload_n o dX11_bodyDigest_35 rfl 0 rfl ?_
  refine gt_11_10 o hK0 ln_5_105 dX11_bodyDigest_36 ?_
  obtain ⟨hr, hs⟩ := Prod.mk.inj (z_some h)
  subst hr
  subst hs
  exact v_lreturn o dX11_bodyDigest_39
theorem e_X11_bodyDigest {q : z_Q} {l : Launch} {G : z_G} {D : z_D} {a0 : Nat} {r : Int64} {D1 : z_D} (hK0 : z_K G a0 = 111) (h : f_X11_bodyDigest G D a0 = some (r, D1)) : z_E q l yX11_bodyDigest cX11_bodyDigest 2 (some .long) 1 0 0 [.ref (z_w q a0)] G D (some (.long r)) G D1 :=
  z_E.of (by decide) (Nat.le_of_ble_eq_true rfl) (fun X hX _ o => b_X11_bodyDigest o hX hK0 h)
