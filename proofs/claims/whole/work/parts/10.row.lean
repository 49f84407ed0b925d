def f_X5_size (G : z_G) (D : z_D) (a0 : Nat) : Option (Int32) :=
  (some (z_I D 501 a0))
set_option maxRecDepth 100000 in
set_option maxHeartbeats 4000000 in
theorem b_X5_size {q : z_Q} {X : z_X} {G : z_G} {D : z_D} {a0 : Nat} {r : Int32} (o : z_O q X cX5_size 1 "FlashTrust$Row" "size" (some .int)) (hX : x_R X = z_rm 0 0 0) (hK0 : z_K G a0 = 105) (h : f_X5_size G D a0 = some r) : z_V q X 1 (z_F q X (some (.int r)) G D 0 0) 0 0 G D 0 [(0, .ref (z_w q a0))] [] := by
  unfold f_X5_size at h
  refine v_aload_n o dX5_size_0 rfl 0 rfl ?_
  refine gt_5_1 o hK0 ln_1_33 dX5_size_1 ?_
  have hr := z_some h
  subst hr
  exact v_ireturn o dX5_size_4
theorem e_X5_size {q : z_Q} {l : Launch} {G : z_G} {D : z_D} {a0 : Nat} {r : Int32} (hK0 : z_K G a0 = 105) (h : f_X5_size G D a0 = some r) : z_E q l yX5_size cX5_size 1 (some .int) 0 0 0 [.ref (z_w q a0)] G D (some (.int r)) G D :=
  z_E.of (by decide) (Nat.le_of_ble_eq_true rfl) (fun X hX _ o => b_X5_size o hX hK0 h)
def f_X5_has (G : z_G) (D : z_D) (a0 : Nat) (a1 : Int32) : Option (Int32) :=
  (if a1 < (0 : Int32) then ((some (0 : Int32))) else ((if (z_I D 501 a0) ≤ a1 then ((some (0 : Int32))) else (((some (1 : Int32)))))))
set_option maxRecDepth 100000 in
set_option maxHeartbeats 4000000 in
theorem b_X5_has {q : z_Q} {X : z_X} {G : z_G} {D : z_D} {a0 : Nat} {a1 : Int32} {r : Int32} (o : z_O q X cX5_has 2 "FlashTrust$Row" "has" (some .boolean)) (hX : x_R X = z_rm 0 0 0) (hK0 : z_K G a0 = 105) (h : f_X5_has G D a0 a1 = some r) : z_V q X 2 (z_F q X (some (.int r)) G D 0 0) 0 0 G D 0 [(0, .ref (z_w q a0)), (1, .int a1)] [] := by
  unfold f_X5_has at h
  refine v_iload_n o dX5_has_0 rfl 1 rfl ?_
  refine v_if_lt o 16 dX5_has_1 (by decide) (fun c1 => ?_) (fun c1 => ?_)
  · replace h := z_ip c1 h
    refine v_iconst o (0 : Int32) dX5_has_16 (by decide) ?_
    have hr := z_some h
    subst hr
    exact v_zreturn o (by decide) dX5_has_17
  · replace h := z_in c1 h
    refine v_iload_n o dX5_has_4 rfl 1 rfl ?_
    refine v_aload_n o dX5_has_5 rfl 0 rfl ?_
    refine gt_5_1 o hK0 ln_1_33 dX5_has_6 ?_
    refine v_icmp_ge o 16 dX5_has_9 (by decide) (fun c2 => ?_) (fun c2 => ?_)
    · replace h := z_ip c2 h
      refine v_iconst o (0 : Int32) dX5_has_16 (by decide) ?_
      have hr := z_some h
      subst hr
      exact v_zreturn o (by decide) dX5_has_17
    · replace h := z_in c2 h
      refine v_iconst o (1 : Int32) dX5_has_12 (by decide) ?_
      refine v_goto o 17 dX5_has_13 (by decide) ?_
      have hr := z_some h
      subst hr
      exact v_zreturn o (by decide) dX5_has_17
theorem e_X5_has {q : z_Q} {l : Launch} {G : z_G} {D : z_D} {a0 : Nat} {a1 : Int32} {r : Int32} (hK0 : z_K G a0 = 105) (h : f_X5_has G D a0 a1 = some r) : z_E q l yX5_has cX5_has 2 (some .boolean) 0 0 0 [.ref (z_w q a0), .int a1] G D (some (.int r)) G D :=
  z_E.of (by decide) (Nat.le_of_ble_eq_true rfl) (fun X hX _ o => b_X5_has o hX hK0 h)
def f_X5_at (G : z_G) (D : z_D) (a0 : Nat) (a1 : Int32) : Option (Int32) :=
  (if a1 < (0 : Int32) then ((some (255 : Int32))) else ((if (z_I D 501 a0) ≤ a1 then ((some (255 : Int32))) else (z_gK G 1 (z_R G 500 a0) (z_gA G 1 (z_R G 500 a0) a1 (((some (z_U D (z_R G 500 a0) (a1).toNatClampNeg)))))))))
set_option maxRecDepth 100000 in
set_option maxHeartbeats 4000000 in
theorem b_X5_at {q : z_Q} {X : z_X} {G : z_G} {D : z_D} {a0 : Nat} {a1 : Int32} {r : Int32} (o : z_O q X cX5_at 2 "FlashTrust$Row" "at" (some .int)) (hX : x_R X = z_rm 0 0 0) (hK0 : z_K G a0 = 105) (h : f_X5_at G D a0 a1 = some r) : z_V q X 2 (z_F q X (some (.int r)) G D 0 0) 0 0 G D 0 [(0, .ref (z_w q a0)), (1, .int a1)] [] := by
  unfold f_X5_at at h
  refine v_iload_n o dX5_at_0 rfl 1 rfl ?_
  refine v_if_lt o 21 dX5_at_1 (by decide) (fun c1 => ?_) (fun c1 => ?_)
  · replace h := z_ip c1 h
    refine v_sipush o (255 : Int32) dX5_at_21 (by decide) ?_
    have hr := z_some h
    subst hr
    exact v_ireturn o dX5_at_24
  · replace h := z_in c1 h
    refine v_iload_n o dX5_at_4 rfl 1 rfl ?_
    refine v_aload_n o dX5_at_5 rfl 0 rfl ?_
    refine gt_5_1 o hK0 ln_1_33 dX5_at_6 ?_
    refine v_icmp_ge o 21 dX5_at_9 (by decide) (fun c2 => ?_) (fun c2 => ?_)
    · replace h := z_ip c2 h
      refine v_sipush o (255 : Int32) dX5_at_21 (by decide) ?_
      have hr := z_some h
      subst hr
      exact v_ireturn o dX5_at_24
    · replace h := z_in c2 h
      refine v_aload_n o dX5_at_12 rfl 0 rfl ?_
      obtain ⟨n3, h⟩ := z_gK_of h
      refine gt_5_0 o hK0 ln_1_32 (by rw [n3]; decide) dX5_at_13 ?_
      refine v_iload_n o dX5_at_16 rfl 1 rfl ?_
      obtain ⟨n4, n5, h⟩ := z_gA_of h
      refine v_iald o n4 n5 dX5_at_17 ?_
      refine v_goto o 24 dX5_at_18 (by decide) ?_
      have hr := z_some h
      subst hr
      exact v_ireturn o dX5_at_24
theorem e_X5_at {q : z_Q} {l : Launch} {G : z_G} {D : z_D} {a0 : Nat} {a1 : Int32} {r : Int32} (hK0 : z_K G a0 = 105) (h : f_X5_at G D a0 a1 = some r) : z_E q l yX5_at cX5_at 2 (some .int) 0 0 0 [.ref (z_w q a0), .int a1] G D (some (.int r)) G D :=
  z_E.of (by decide) (Nat.le_of_ble_eq_true rfl) (fun X hX _ o => b_X5_at o hX hK0 h)
def f_X5_set (G : z_G) (D : z_D) (a0 : Nat) (a1 : Int32) (a2 : Int32) : Option (z_D) :=
  (if a1 < (0 : Int32) then ((some D)) else ((if (z_I D 501 a0) ≤ a1 then ((some D)) else (z_gK G 1 (z_R G 500 a0) (z_gA G 1 (z_R G 500 a0) a1 ((some (z_sU D (z_R G 500 a0) (a1).toNatClampNeg (a2 &&& (255 : Int32))))))))))
set_option maxRecDepth 100000 in
set_option maxHeartbeats 4000000 in
theorem b_X5_set {q : z_Q} {X : z_X} {G : z_G} {D : z_D} {a0 : Nat} {a1 : Int32} {a2 : Int32}  {D1 : z_D} (o : z_O q X cX5_set 3 "FlashTrust$Row" "set" none) (hX : x_R X = z_rm 0 0 0) (hK0 : z_K G a0 = 105) (h : f_X5_set G D a0 a1 a2 = some D1) : z_V q X 3 (z_F q X none G D1 0 0) 0 0 G D 0 [(0, .ref (z_w q a0)), (1, .int a1), (2, .int a2)] [] := by
  unfold f_X5_set at h
  refine v_iload_n o dX5_set_0 rfl 1 rfl ?_
  refine v_if_lt o 23 dX5_set_1 (by decide) (fun c1 => ?_) (fun c1 => ?_)
  · replace h := z_ip c1 h
    have hr := z_some h
    subst hr
    exact v_return o dX5_set_23
  · replace h := z_in c1 h
    refine v_iload_n o dX5_set_4 rfl 1 rfl ?_
    refine v_aload_n o dX5_set_5 rfl 0 rfl ?_
    refine gt_5_1 o hK0 ln_1_33 dX5_set_6 ?_
    refine v_icmp_ge o 23 dX5_set_9 (by decide) (fun c2 => ?_) (fun c2 => ?_)
    · replace h := z_ip c2 h
      have hr := z_some h
      subst hr
      exact v_return o dX5_set_23
    · replace h := z_in c2 h
      refine v_aload_n o dX5_set_12 rfl 0 rfl ?_
      obtain ⟨n3, h⟩ := z_gK_of h
      refine gt_5_0 o hK0 ln_1_32 (by rw [n3]; decide) dX5_set_13 ?_
      refine v_iload_n o dX5_set_16 rfl 1 rfl ?_
      refine v_iload_n o dX5_set_17 rfl 2 rfl ?_
      refine v_sipush o (255 : Int32) dX5_set_18 (by decide) ?_
      refine v_iand o dX5_set_21 ?_
      obtain ⟨n4, n5, h⟩ := z_gA_of h
      refine v_iast o n4 n5 dX5_set_22 ?_
      have hr := z_some h
      subst hr
      exact v_return o dX5_set_23
theorem e_X5_set {q : z_Q} {l : Launch} {G : z_G} {D : z_D} {a0 : Nat} {a1 : Int32} {a2 : Int32}  {D1 : z_D} (hK0 : z_K G a0 = 105) (h : f_X5_set G D a0 a1 a2 = some D1) : z_E q l yX5_set cX5_set 3 none 0 0 0 [.ref (z_w q a0), .int a1, .int a2] G D none G D1 :=
  z_E.of (by decide) (Nat.le_of_ble_eq_true rfl) (fun X hX _ o => b_X5_set o hX hK0 h)
def f_X5_empty (G : z_G) (D : z_D) (a0 : Nat) : Option (z_D) :=
  (some (z_sI D 501 a0 (0 : Int32)))
set_option maxRecDepth 100000 in
set_option maxHeartbeats 4000000 in
theorem b_X5_empty {q : z_Q} {X : z_X} {G : z_G} {D : z_D} {a0 : Nat}  {D1 : z_D} (o : z_O q X cX5_empty 1 "FlashTrust$Row" "empty" none) (hX : x_R X = z_rm 0 0 0) (hK0 : z_K G a0 = 105) (h : f_X5_empty G D a0 = some D1) : z_V q X 1 (z_F q X none G D1 0 0) 0 0 G D 0 [(0, .ref (z_w q a0))] [] := by
  unfold f_X5_empty at h
  refine v_aload_n o dX5_empty_0 rfl 0 rfl ?_
  refine v_iconst o (0 : Int32) dX5_empty_1 (by decide) ?_
  refine pt_5_1 o hK0 ln_1_33 dX5_empty_2 ?_
  have hr := z_some h
  subst hr
  exact v_return o dX5_empty_5
theorem e_X5_empty {q : z_Q} {l : Launch} {G : z_G} {D : z_D} {a0 : Nat}  {D1 : z_D} (hK0 : z_K G a0 = 105) (h : f_X5_empty G D a0 = some D1) : z_E q l yX5_empty cX5_empty 1 none 0 0 0 [.ref (z_w q a0)] G D none G D1 :=
  z_E.of (by decide) (Nat.le_of_ble_eq_true rfl) (fun X hX _ o => b_X5_empty o hX hK0 h)
def f_X5_shorten (G : z_G) (D : z_D) (a0 : Nat) (a1 : Int32) : Option (z_D) :=
  (some (z_sI D 501 a0 (if (0 : Int32) < ((z_I D 501 a0) - (if a1 < (0 : Int32) then (0 : Int32) else a1)) then ((z_I D 501 a0) - (if a1 < (0 : Int32) then (0 : Int32) else a1)) else (0 : Int32))))
set_option maxRecDepth 100000 in
set_option maxHeartbeats 4000000 in
theorem b_X5_shorten {q : z_Q} {X : z_X} {G : z_G} {D : z_D} {a0 : Nat} {a1 : Int32}  {D1 : z_D} (o : z_O q X cX5_shorten 2 "FlashTrust$Row" "shorten" none) (hX : x_R X = z_rm 1 0 0) (hK0 : z_K G a0 = 105) (h : f_X5_shorten G D a0 a1 = some D1) : z_V q X 2 (z_F q X none G D1 0 0) 0 0 G D 0 [(0, .ref (z_w q a0)), (1, .int a1)] [] := by
  unfold f_X5_shorten at h
  refine v_aload_n o dX5_shorten_0 rfl 0 rfl ?_
  refine v_iconst o (0 : Int32) dX5_shorten_1 (by decide) ?_
  refine v_aload_n o dX5_shorten_2 rfl 0 rfl ?_
  refine gt_5_1 o hK0 ln_1_33 dX5_shorten_3 ?_
  refine v_iload_n o dX5_shorten_6 rfl 1 rfl ?_
  refine v_iconst o (0 : Int32) dX5_shorten_7 (by decide) ?_
  refine v_mmax o ln_1_29 hX (by decide) (Nat.le_of_ble_eq_true rfl) dX5_shorten_8 ?_
  refine v_isub o dX5_shorten_11 ?_
  refine v_mmax o ln_1_29 hX (by decide) (Nat.le_of_ble_eq_true rfl) dX5_shorten_12 ?_
  refine pt_5_1 o hK0 ln_1_33 dX5_shorten_15 ?_
  have hr := z_some h
  subst hr
  exact v_return o dX5_shorten_18
theorem e_X5_shorten {q : z_Q} {l : Launch} {G : z_G} {D : z_D} {a0 : Nat} {a1 : Int32}  {D1 : z_D} (hK0 : z_K G a0 = 105) (h : f_X5_shorten G D a0 a1 = some D1) : z_E q l yX5_shorten cX5_shorten 2 none 1 0 0 [.ref (z_w q a0), .int a1] G D none G D1 :=
  z_E.of (by decide) (Nat.le_of_ble_eq_true rfl) (fun X hX _ o => b_X5_shorten o hX hK0 h)
def f_X5_add (G : z_G) (D : z_D) (a0 : Nat) (a1 : Int32) : Option (z_D) :=
  z_gK G 1 (z_R G 500 a0) ((if (Int32.ofNat (z_N G (z_R G 500 a0))) ≤ (z_I D 501 a0) then ((some D)) else (z_gA G 1 (z_R G 500 a0) (z_I D 501 a0) ((some (z_sI (z_sU D (z_R G 500 a0) ((z_I D 501 a0)).toNatClampNeg (a1 &&& (255 : Int32))) 501 a0 ((z_I (z_sU D (z_R G 500 a0) ((z_I D 501 a0)).toNatClampNeg (a1 &&& (255 : Int32))) 501 a0) + (1 : Int32))))))))
set_option maxRecDepth 100000 in
set_option maxHeartbeats 4000000 in
theorem b_X5_add {q : z_Q} {X : z_X} {G : z_G} {D : z_D} {a0 : Nat} {a1 : Int32}  {D1 : z_D} (o : z_O q X cX5_add 2 "FlashTrust$Row" "add" none) (hX : x_R X = z_rm 0 0 0) (hK0 : z_K G a0 = 105) (h : f_X5_add G D a0 a1 = some D1) : z_V q X 2 (z_F q X none G D1 0 0) 0 0 G D 0 [(0, .ref (z_w q a0)), (1, .int a1)] [] := by
  unfold f_X5_add at h
  refine v_aload_n o dX5_add_0 rfl 0 rfl ?_
  refine gt_5_1 o hK0 ln_1_33 dX5_add_1 ?_
  refine v_aload_n o dX5_add_4 rfl 0 rfl ?_
  obtain ⟨n1, h⟩ := z_gK_of h
  refine gt_5_0 o hK0 ln_1_32 (by rw [n1]; decide) dX5_add_5 ?_
  refine v_alen o n1 dX5_add_8 ?_
  refine v_icmp_ge o 36 dX5_add_9 (by decide) (fun c2 => ?_) (fun c2 => ?_)
  · replace h := z_ip c2 h
    have hr := z_some h
    subst hr
    exact v_return o dX5_add_36
  · replace h := z_in c2 h
    refine v_aload_n o dX5_add_12 rfl 0 rfl ?_
    refine gt_5_0 o hK0 ln_1_32 (by rw [n1]; decide) dX5_add_13 ?_
    refine v_aload_n o dX5_add_16 rfl 0 rfl ?_
    refine gt_5_1 o hK0 ln_1_33 dX5_add_17 ?_
    refine v_iload_n o dX5_add_20 rfl 1 rfl ?_
    refine v_sipush o (255 : Int32) dX5_add_21 (by decide) ?_
    refine v_iand o dX5_add_24 ?_
    obtain ⟨n3, n4, h⟩ := z_gA_of h
    refine v_iast o n3 n4 dX5_add_25 ?_
    refine v_aload_n o dX5_add_26 rfl 0 rfl ?_
    refine v_dup o dX5_add_27 rfl ?_
    refine gt_5_1 o hK0 ln_1_33 dX5_add_28 ?_
    refine v_iconst o (1 : Int32) dX5_add_31 (by decide) ?_
    refine v_iadd o dX5_add_32 ?_
    refine pt_5_1 o hK0 ln_1_33 dX5_add_33 ?_
    have hr := z_some h
    subst hr
    exact v_return o dX5_add_36
theorem e_X5_add {q : z_Q} {l : Launch} {G : z_G} {D : z_D} {a0 : Nat} {a1 : Int32}  {D1 : z_D} (hK0 : z_K G a0 = 105) (h : f_X5_add G D a0 a1 = some D1) : z_E q l yX5_add cX5_add 2 none 0 0 0 [.ref (z_w q a0), .int a1] G D none G D1 :=
  z_E.of (by decide) (Nat.le_of_ble_eq_true rfl) (fun X hX _ o => b_X5_add o hX hK0 h)
def p_X5_addNumber_5 (q : z_Q) (X : z_X) (Q : State → Prop) (G : z_G) (a0 : Nat) (a1 : Int64) : (z_D × Int32) → Prop := (fun v => z_V q X 5 Q 0 0 G v.1 5 [(0, .ref (z_w q a0)), (1, .long a1), (4, .int v.2)] [])
def x_X5_addNumber_5 (q : z_Q) (X : z_X) (Q : State → Prop) (G : z_G) (a0 : Nat) (a1 : Int64) : z_D → Prop := (fun v => z_V q X 5 Q 0 0 G v 28 [] [])
def k_X5_addNumber_5 (q : z_Q) (X : z_X) (Q : State → Prop) (G : z_G) (a0 : Nat) (a1 : Int64) : (z_D × Int32) ⊕ z_D → Prop := Sum.elim (p_X5_addNumber_5 q X Q G a0 a1) (x_X5_addNumber_5 q X Q G a0 a1)
def c_X5_addNumber_5 (G : z_G) (D : z_D) (a0 : Nat) (a1 : Int64) (a4 : Int32) : Option ((z_D × Int32) ⊕ z_D) :=
  (if a4 < (0 : Int32) then (some (.inr D)) else ((f_X5_add G D a0 ((((a1).toUInt64 >>> ((((8 : Int32) * a4)).toInt64.toUInt64 &&& Int64.toUInt64 63)).toInt64).toInt32)).bind (fun D3 => ((some (.inl (D3, (a4 + (-1 : Int32)))))))))
set_option maxRecDepth 100000 in
set_option maxHeartbeats 4000000 in
theorem tc_X5_addNumber_5 {q : z_Q} {X : z_X} {G : z_G} {D : z_D} {Q : State → Prop} {a0 : Nat} {a1 : Int64} {a4 : Int32} (o : z_O q X cX5_addNumber 5 "FlashTrust$Row" "addNumber" none) (hX : x_R X = z_rm 1 0 0) (hK0 : z_K G a0 = 105) {ρ : (z_D × Int32) ⊕ z_D} (h : c_X5_addNumber_5 G D a0 a1 a4 = some ρ) (hk : k_X5_addNumber_5 q X Q G a0 a1 ρ) : z_V q X 5 Q 0 0 G D 5 [(0, .ref (z_w q a0)), (1, .long a1), (4, .int a4)] [] := by
  unfold c_X5_addNumber_5 at h
  refine v_iload o dX5_addNumber_5 2 rfl ?_
  refine v_if_lt o 28 dX5_addNumber_7 (by decide) (fun c1 => ?_) (fun c1 => ?_)
  · replace h := z_ip c1 h
    obtain rfl := z_some h
    refine v_sub [] rfl ?_
    exact hk
  · replace h := z_in c1 h
    refine v_aload_n o dX5_addNumber_10 rfl 0 rfl ?_
    refine v_lload_n o dX5_addNumber_11 rfl 1 rfl ?_
    refine v_bipush o (8 : Int32) dX5_addNumber_12 (by decide) ?_
    refine v_iload o dX5_addNumber_14 2 rfl ?_
    refine v_imul o dX5_addNumber_16 ?_
    refine v_lushr o dX5_addNumber_17 ?_
    refine v_l2i o dX5_addNumber_18 ?_
    obtain ⟨D3, he2, h⟩ := z_bind h
    refine v_callV o yw_X5_add ln_2_164 wi_X5_add ws_X5_add hX (by decide) 5 rfl hK0 (As := [.int (((a1).toUInt64 >>> ((((8 : Int32) * a4)).toInt64.toUInt64 &&& Int64.toUInt64 63)).toInt64).toInt32]) rfl rfl (Nat.le_of_ble_eq_true rfl) (e_X5_add hK0 he2) dX5_addNumber_19 ?_
    refine v_iinc o (a4 + (-1 : Int32)) [(4, .int (a4 + (-1 : Int32))), (0, .ref (z_w q a0)), (1, .long a1)] dX5_addNumber_22 2 rfl rfl (by decide) rfl ?_
    refine v_goto o 5 dX5_addNumber_25 (by decide) ?_
    obtain rfl := z_some h
    refine v_sub [1, 2, 0] rfl ?_
    exact hk
def f_X5_addNumber (G : z_G) (D : z_D) (a0 : Nat) (a1 : Int64) (a3 : Int32) : Option (z_D) :=
  ((z_loop (fun v => c_X5_addNumber_5 G v.1 a0 a1 v.2) 4000 (D, (a3 - (1 : Int32)))).bind (fun e4 => (some e4)))
set_option maxRecDepth 100000 in
set_option maxHeartbeats 4000000 in
theorem b_X5_addNumber {q : z_Q} {X : z_X} {G : z_G} {D : z_D} {a0 : Nat} {a1 : Int64} {a3 : Int32}  {D1 : z_D} (o : z_O q X cX5_addNumber 5 "FlashTrust$Row" "addNumber" none) (hX : x_R X = z_rm 1 0 0) (hK0 : z_K G a0 = 105) (h : f_X5_addNumber G D a0 a1 a3 = some D1) : z_V q X 5 (z_F q X none G D1 0 0) 0 0 G D 0 [(0, .ref (z_w q a0)), (1, .long a1), (3, .int a3)] [] := by
  unfold f_X5_addNumber at h
  refine v_iload_n o dX5_addNumber_0 rfl 2 rfl ?_
  refine v_iconst o (1 : Int32) dX5_addNumber_1 (by decide) ?_
  refine v_isub o dX5_addNumber_2 ?_
  refine v_istore o [(4, .int (a3 - (1 : Int32))), (0, .ref (z_w q a0)), (1, .long a1), (3, .int a3)] dX5_addNumber_3 (by decide) rfl ?_
  refine v_sub [1, 2, 0] rfl ?_
  obtain ⟨e4, he5, h⟩ := z_bind h
  refine z_loopV (P := p_X5_addNumber_5 q X _ G a0 a1) (E := x_X5_addNumber_5 q X _ G a0 a1) (fun v ρ hb hk => tc_X5_addNumber_5 (D := v.1) (a0 := a0) (a1 := a1) (a4 := v.2) o hX hK0 hb hk) 4000 _ e4 he5 ?_
  show z_V q X 5 _ _ _ G e4 28 [] []
  have hr := z_some h
  subst hr
  exact v_return o dX5_addNumber_28
theorem e_X5_addNumber {q : z_Q} {l : Launch} {G : z_G} {D : z_D} {a0 : Nat} {a1 : Int64} {a3 : Int32}  {D1 : z_D} (hK0 : z_K G a0 = 105) (h : f_X5_addNumber G D a0 a1 a3 = some D1) : z_E q l yX5_addNumber cX5_addNumber 5 none 1 0 0 [.ref (z_w q a0), .long a1, .int a3] G D none G D1 :=
  z_E.of (by decide) (Nat.le_of_ble_eq_true rfl) (fun X hX _ o => b_X5_addNumber o hX hK0 h)
def p_X5_addFrom_3 (q : z_Q) (X : z_X) (Q : State → Prop) (G : z_G) (a0 : Nat) (a1 : Nat) (a2 : Int32) (a3 : Int32) : (z_D × Int32) → Prop := (fun v => z_V q X 5 Q 0 0 G v.1 3 [(0, .ref (z_w q a0)), (1, .ref (z_w q a1)), (2, .int a2), (3, .int a3), (4, .int v.2)] [])
def x_X5_addFrom_3 (q : z_Q) (X : z_X) (Q : State → Prop) (G : z_G) (a0 : Nat) (a1 : Nat) (a2 : Int32) (a3 : Int32) : z_D → Prop := (fun v => z_V q X 5 Q 0 0 G v 27 [] [])
def k_X5_addFrom_3 (q : z_Q) (X : z_X) (Q : State → Prop) (G : z_G) (a0 : Nat) (a1 : Nat) (a2 : Int32) (a3 : Int32) : (z_D × Int32) ⊕ z_D → Prop := Sum.elim (p_X5_addFrom_3 q X Q G a0 a1 a2 a3) (x_X5_addFrom_3 q X Q G a0 a1 a2 a3)
def c_X5_addFrom_3 (G : z_G) (D : z_D) (a0 : Nat) (a1 : Nat) (a2 : Int32) (a3 : Int32) (a4 : Int32) : Option ((z_D × Int32) ⊕ z_D) :=
  (if a3 ≤ a4 then (some (.inr D)) else (z_gK G 105 a1 ((f_X5_at G D a1 (a2 + a4)).bind (fun r4 => ((f_X5_add G D a0 r4).bind (fun D6 => ((some (.inl (D6, (a4 + (1 : Int32))))))))))))
set_option maxRecDepth 100000 in
set_option maxHeartbeats 4000000 in
theorem tc_X5_addFrom_3 {q : z_Q} {X : z_X} {G : z_G} {D : z_D} {Q : State → Prop} {a0 : Nat} {a1 : Nat} {a2 : Int32} {a3 : Int32} {a4 : Int32} (o : z_O q X cX5_addFrom 5 "FlashTrust$Row" "addFrom" none) (hX : x_R X = z_rm 1 0 0) (hK0 : z_K G a0 = 105) {ρ : (z_D × Int32) ⊕ z_D} (h : c_X5_addFrom_3 G D a0 a1 a2 a3 a4 = some ρ) (hk : k_X5_addFrom_3 q X Q G a0 a1 a2 a3 ρ) : z_V q X 5 Q 0 0 G D 3 [(0, .ref (z_w q a0)), (1, .ref (z_w q a1)), (2, .int a2), (3, .int a3), (4, .int a4)] [] := by
  unfold c_X5_addFrom_3 at h
  refine v_iload o dX5_addFrom_3 4 rfl ?_
  refine v_iload_n o dX5_addFrom_5 rfl 3 rfl ?_
  refine v_icmp_ge o 27 dX5_addFrom_6 (by decide) (fun c1 => ?_) (fun c1 => ?_)
  · replace h := z_ip c1 h
    obtain rfl := z_some h
    refine v_sub [] rfl ?_
    exact hk
  · replace h := z_in c1 h
    refine v_aload_n o dX5_addFrom_9 rfl 0 rfl ?_
    refine v_aload_n o dX5_addFrom_10 rfl 1 rfl ?_
    refine v_iload_n o dX5_addFrom_11 rfl 2 rfl ?_
    refine v_iload o dX5_addFrom_12 4 rfl ?_
    refine v_iadd o dX5_addFrom_14 ?_
    obtain ⟨n2, h⟩ := z_gK_of h
    obtain ⟨r4, he3, h⟩ := z_bind h
    refine v_callV o yw_X5_at ln_3_165 wi_X5_at ws_X5_at hX (by decide) 5 rfl n2 (As := [.int (a2 + a4)]) rfl rfl (Nat.le_of_ble_eq_true rfl) (e_X5_at n2 he3) dX5_addFrom_15 ?_
    obtain ⟨D6, he5, h⟩ := z_bind h
    refine v_callV o yw_X5_add ln_2_164 wi_X5_add ws_X5_add hX (by decide) 5 rfl hK0 (As := [.int r4]) rfl rfl (Nat.le_of_ble_eq_true rfl) (e_X5_add hK0 he5) dX5_addFrom_18 ?_
    refine v_iinc o (a4 + (1 : Int32)) [(4, .int (a4 + (1 : Int32))), (0, .ref (z_w q a0)), (1, .ref (z_w q a1)), (2, .int a2), (3, .int a3)] dX5_addFrom_21 4 rfl rfl (by decide) rfl ?_
    refine v_goto o 3 dX5_addFrom_24 (by decide) ?_
    obtain rfl := z_some h
    refine v_sub [1, 2, 3, 4, 0] rfl ?_
    exact hk
def f_X5_addFrom (G : z_G) (D : z_D) (a0 : Nat) (a1 : Nat) (a2 : Int32) (a3 : Int32) : Option (z_D) :=
  ((z_loop (fun v => c_X5_addFrom_3 G v.1 a0 a1 a2 a3 v.2) 4000 (D, (0 : Int32))).bind (fun e7 => (some e7)))
set_option maxRecDepth 100000 in
set_option maxHeartbeats 4000000 in
theorem b_X5_addFrom {q : z_Q} {X : z_X} {G : z_G} {D : z_D} {a0 : Nat} {a1 : Nat} {a2 : Int32} {a3 : Int32}  {D1 : z_D} (o : z_O q X cX5_addFrom 5 "FlashTrust$Row" "addFrom" none) (hX : x_R X = z_rm 1 0 0) (hK0 : z_K G a0 = 105) (h : f_X5_addFrom G D a0 a1 a2 a3 = some D1) : z_V q X 5 (z_F q X none G D1 0 0) 0 0 G D 0 [(0, .ref (z_w q a0)), (1, .ref (z_w q a1)), (2, .int a2), (3, .int a3)] [] := by
  unfold f_X5_addFrom at h
  refine v_iconst o (0 : Int32) dX5_addFrom_0 (by decide) ?_
  refine v_istore o [(4, .int (0 : Int32)), (0, .ref (z_w q a0)), (1, .ref (z_w q a1)), (2, .int a2), (3, .int a3)] dX5_addFrom_1 (by decide) rfl ?_
  refine v_sub [1, 2, 3, 4, 0] rfl ?_
  obtain ⟨e7, he8, h⟩ := z_bind h
  refine z_loopV (P := p_X5_addFrom_3 q X _ G a0 a1 a2 a3) (E := x_X5_addFrom_3 q X _ G a0 a1 a2 a3) (fun v ρ hb hk => tc_X5_addFrom_3 (D := v.1) (a0 := a0) (a1 := a1) (a2 := a2) (a3 := a3) (a4 := v.2) o hX hK0 hb hk) 4000 _ e7 he8 ?_
  show z_V q X 5 _ _ _ G e7 27 [] []
  have hr := z_some h
  subst hr
  exact v_return o dX5_addFrom_27
theorem e_X5_addFrom {q : z_Q} {l : Launch} {G : z_G} {D : z_D} {a0 : Nat} {a1 : Nat} {a2 : Int32} {a3 : Int32}  {D1 : z_D} (hK0 : z_K G a0 = 105) (h : f_X5_addFrom G D a0 a1 a2 a3 = some D1) : z_E q l yX5_addFrom cX5_addFrom 5 none 1 0 0 [.ref (z_w q a0), .ref (z_w q a1), .int a2, .int a3] G D none G D1 :=
  z_E.of (by decide) (Nat.le_of_ble_eq_true rfl) (fun X hX _ o => b_X5_addFrom o hX hK0 h)
def p_X5_number_27 (q : z_Q) (X : z_X) (Q : State → Prop) (G : z_G) (D : z_D) (a0 : Nat) (a1 : Int32) (a2 : Int32) : (Int64 × Int32) → Prop := (fun v => z_V q X 6 Q 0 0 G D 27 [(0, .ref (z_w q a0)), (1, .int a1), (2, .int a2), (3, .long v.1), (5, .int v.2)] [])
def x_X5_number_27 (q : z_Q) (X : z_X) (Q : State → Prop) (G : z_G) (D : z_D) (a0 : Nat) (a1 : Int32) (a2 : Int32) : Int64 → Prop := (fun v => z_V q X 6 Q 0 0 G D 55 [(3, .long v)] [])
def k_X5_number_27 (q : z_Q) (X : z_X) (Q : State → Prop) (G : z_G) (D : z_D) (a0 : Nat) (a1 : Int32) (a2 : Int32) : (Int64 × Int32) ⊕ Int64 → Prop := Sum.elim (p_X5_number_27 q X Q G D a0 a1 a2) (x_X5_number_27 q X Q G D a0 a1 a2)
def c_X5_number_27 (G : z_G) (D : z_D) (a0 : Nat) (a1 : Int32) (a2 : Int32) (a3 : Int64) (a5 : Int32) : Option ((Int64 × Int32) ⊕ Int64) :=
  (if (a1 + a2) ≤ a5 then (some (.inr a3)) else (z_gK G 1 (z_R G 500 a0) (z_gA G 1 (z_R G 500 a0) a5 ((some (.inl (((a3 <<< (((8 : Int32)).toInt64 &&& 63)) ||| ((z_U D (z_R G 500 a0) (a5).toNatClampNeg)).toInt64), (a5 + (1 : Int32)))))))))
set_option maxRecDepth 100000 in
set_option maxHeartbeats 4000000 in
theorem tc_X5_number_27 {q : z_Q} {X : z_X} {G : z_G} {D : z_D} {Q : State → Prop} {a0 : Nat} {a1 : Int32} {a2 : Int32} {a3 : Int64} {a5 : Int32} (o : z_O q X cX5_number 6 "FlashTrust$Row" "number" (some .long)) (hX : x_R X = z_rm 0 0 0) (hK0 : z_K G a0 = 105) {ρ : (Int64 × Int32) ⊕ Int64} (h : c_X5_number_27 G D a0 a1 a2 a3 a5 = some ρ) (hk : k_X5_number_27 q X Q G D a0 a1 a2 ρ) : z_V q X 6 Q 0 0 G D 27 [(0, .ref (z_w q a0)), (1, .int a1), (2, .int a2), (3, .long a3), (5, .int a5)] [] := by
  unfold c_X5_number_27 at h
  refine v_iload o dX5_number_27 4 rfl ?_
  refine v_iload_n o dX5_number_29 rfl 1 rfl ?_
  refine v_iload_n o dX5_number_30 rfl 2 rfl ?_
  refine v_iadd o dX5_number_31 ?_
  refine v_icmp_ge o 55 dX5_number_32 (by decide) (fun c4 => ?_) (fun c4 => ?_)
  · replace h := z_ip c4 h
    obtain rfl := z_some h
    refine v_sub [3] rfl ?_
    exact hk
  · replace h := z_in c4 h
    refine v_lload_n o dX5_number_35 rfl 3 rfl ?_
    refine v_bipush o (8 : Int32) dX5_number_36 (by decide) ?_
    refine v_lshl o dX5_number_38 ?_
    refine v_aload_n o dX5_number_39 rfl 0 rfl ?_
    obtain ⟨n5, h⟩ := z_gK_of h
    refine gt_5_0 o hK0 ln_1_32 (by rw [n5]; decide) dX5_number_40 ?_
    refine v_iload o dX5_number_43 4 rfl ?_
    obtain ⟨n6, n7, h⟩ := z_gA_of h
    refine v_iald o n6 n7 dX5_number_45 ?_
    refine v_i2l o dX5_number_46 ?_
    refine v_lor o dX5_number_47 ?_
    refine v_lstore_n o [(3, .long ((a3 <<< (((8 : Int32)).toInt64 &&& 63)) ||| ((z_U D (z_R G 500 a0) (a5).toNatClampNeg)).toInt64)), (0, .ref (z_w q a0)), (1, .int a1), (2, .int a2), (5, .int a5)] dX5_number_48 rfl (by decide) rfl ?_
    refine v_iinc o (a5 + (1 : Int32)) [(5, .int (a5 + (1 : Int32))), (3, .long ((a3 <<< (((8 : Int32)).toInt64 &&& 63)) ||| ((z_U D (z_R G 500 a0) (a5).toNatClampNeg)).toInt64)), (0, .ref (z_w q a0)), (1, .int a1), (2, .int a2)] dX5_number_49 4 rfl rfl (by decide) rfl ?_
    refine v_goto o 27 dX5_number_52 (by decide) ?_
    obtain rfl := z_some h
    refine v_sub [2, 3, 4, 1, 0] rfl ?_
    exact hk
def f_X5_number (G : z_G) (D : z_D) (a0 : Nat) (a1 : Int32) (a2 : Int32) : Option (Int64) :=
  (if a1 < (0 : Int32) then ((some (-1 : Int64))) else ((if a2 < (0 : Int32) then ((some (-1 : Int64))) else ((if a1 ≤ ((z_I D 501 a0) - a2) then (((z_loop (fun v => c_X5_number_27 G D a0 a1 a2 v.1 v.2) 4000 ((0 : Int64), a1)).bind (fun e8 => (some e8)))) else ((some (-1 : Int64))))))))
set_option maxRecDepth 100000 in
set_option maxHeartbeats 4000000 in
theorem b_X5_number {q : z_Q} {X : z_X} {G : z_G} {D : z_D} {a0 : Nat} {a1 : Int32} {a2 : Int32} {r : Int64} (o : z_O q X cX5_number 6 "FlashTrust$Row" "number" (some .long)) (hX : x_R X = z_rm 0 0 0) (hK0 : z_K G a0 = 105) (h : f_X5_number G D a0 a1 a2 = some r) : z_V q X 6 (z_F q X (some (.long r)) G D 0 0) 0 0 G D 0 [(0, .ref (z_w q a0)), (1, .int a1), (2, .int a2)] [] := by
  unfold f_X5_number at h
  refine v_iload_n o dX5_number_0 rfl 1 rfl ?_
  refine v_if_lt o 18 dX5_number_1 (by decide) (fun c1 => ?_) (fun c1 => ?_)
  · replace h := z_ip c1 h
    refine v_ldc2 o ln_2_186 dX5_number_18 ?_
    have hr := z_some h
    subst hr
    exact v_lreturn o dX5_number_21
  · replace h := z_in c1 h
    refine v_iload_n o dX5_number_4 rfl 2 rfl ?_
    refine v_if_lt o 18 dX5_number_5 (by decide) (fun c2 => ?_) (fun c2 => ?_)
    · replace h := z_ip c2 h
      refine v_ldc2 o ln_2_186 dX5_number_18 ?_
      have hr := z_some h
      subst hr
      exact v_lreturn o dX5_number_21
    · replace h := z_in c2 h
      refine v_iload_n o dX5_number_8 rfl 1 rfl ?_
      refine v_aload_n o dX5_number_9 rfl 0 rfl ?_
      refine gt_5_1 o hK0 ln_1_33 dX5_number_10 ?_
      refine v_iload_n o dX5_number_13 rfl 2 rfl ?_
      refine v_isub o dX5_number_14 ?_
      refine v_icmp_le o 22 dX5_number_15 (by decide) (fun c3 => ?_) (fun c3 => ?_)
      · replace h := z_ip c3 h
        refine v_lconst o (0 : Int64) dX5_number_22 (by decide) ?_
        refine v_lstore_n o [(3, .long (0 : Int64)), (0, .ref (z_w q a0)), (1, .int a1), (2, .int a2)] dX5_number_23 rfl (by decide) rfl ?_
        refine v_iload_n o dX5_number_24 rfl 2 rfl ?_
        refine v_istore o [(5, .int a1), (3, .long (0 : Int64)), (0, .ref (z_w q a0)), (1, .int a1), (2, .int a2)] dX5_number_25 (by decide) rfl ?_
        refine v_sub [2, 3, 4, 1, 0] rfl ?_
        obtain ⟨e8, he9, h⟩ := z_bind h
        refine z_loopV (P := p_X5_number_27 q X _ G D a0 a1 a2) (E := x_X5_number_27 q X _ G D a0 a1 a2) (fun v ρ hb hk => tc_X5_number_27 (D := D) (a0 := a0) (a1 := a1) (a2 := a2) (a3 := v.1) (a5 := v.2) o hX hK0 hb hk) 4000 _ e8 he9 ?_
        show z_V q X 6 _ _ _ G D 55 [(3, .long e8)] []
        refine v_lload_n o dX5_number_55 rfl 0 rfl ?_
        have hr := z_some h
        subst hr
        exact v_lreturn o dX5_number_56
      · replace h := z_in c3 h
        refine v_ldc2 o ln_2_186 dX5_number_18 ?_
        have hr := z_some h
        subst hr
        exact v_lreturn o dX5_number_21
theorem e_X5_number {q : z_Q} {l : Launch} {G : z_G} {D : z_D} {a0 : Nat} {a1 : Int32} {a2 : Int32} {r : Int64} (hK0 : z_K G a0 = 105) (h : f_X5_number G D a0 a1 a2 = some r) : z_E q l yX5_number cX5_number 6 (some .long) 0 0 0 [.ref (z_w q a0), .int a1, .int a2] G D (some (.long r)) G D :=
  z_E.of (by decide) (Nat.le_of_ble_eq_true rfl) (fun X hX _ o => b_X5_number o hX hK0 h)
def p_X5_keyBits_28 (q : z_Q) (X : z_X) (Q : State → Prop) (G : z_G) (D : z_D) (a0 : Nat) (a1 : Int32) (a2 : Int32) : (Int32 × Int32 × Int32) → Prop := (fun v => z_V q X 7 Q 0 0 G D 28 [(0, .ref (z_w q a0)), (1, .int a1), (2, .int a2), (3, .int v.1), (4, .int v.2.1), (5, .int v.2.2)] [])
def x_X5_keyBits_28 (q : z_Q) (X : z_X) (Q : State → Prop) (G : z_G) (D : z_D) (a0 : Nat) (a1 : Int32) (a2 : Int32) : (Unit ⊕ Int32) → Prop := (Sum.elim (fun v => z_V q X 7 Q 0 0 G D 59 [] []) (fun v => z_V q X 7 Q 0 0 G D 78 [(3, .int v)] []))
def k_X5_keyBits_28 (q : z_Q) (X : z_X) (Q : State → Prop) (G : z_G) (D : z_D) (a0 : Nat) (a1 : Int32) (a2 : Int32) : (Int32 × Int32 × Int32) ⊕ (Unit ⊕ Int32) → Prop := Sum.elim (p_X5_keyBits_28 q X Q G D a0 a1 a2) (x_X5_keyBits_28 q X Q G D a0 a1 a2)
def c_X5_keyBits_28 (G : z_G) (D : z_D) (a0 : Nat) (a1 : Int32) (a2 : Int32) (a3 : Int32) (a4 : Int32) (a5 : Int32) : Option ((Int32 × Int32 × Int32) ⊕ (Unit ⊕ Int32)) :=
  (if (a1 + a2) ≤ a5 then (some (.inr (.inr a3))) else (z_gK G 1 (z_R G 500 a0) (z_gA G 1 (z_R G 500 a0) a5 ((if (z_U D (z_R G 500 a0) (a5).toNatClampNeg) ≤ a4 then (some (.inr (.inl ()))) else ((if (z_U D (z_R G 500 a0) (a5).toNatClampNeg) < (16 : Int32) then ((some (.inl ((a3 ||| ((1 : Int32) <<< ((z_U D (z_R G 500 a0) (a5).toNatClampNeg) &&& 31))), (z_U D (z_R G 500 a0) (a5).toNatClampNeg), (a5 + (1 : Int32)))))) else (some (.inr (.inl ()))))))))))
set_option maxRecDepth 100000 in
set_option maxHeartbeats 4000000 in
theorem tc_X5_keyBits_28 {q : z_Q} {X : z_X} {G : z_G} {D : z_D} {Q : State → Prop} {a0 : Nat} {a1 : Int32} {a2 : Int32} {a3 : Int32} {a4 : Int32} {a5 : Int32} (o : z_O q X cX5_keyBits 7 "FlashTrust$Row" "keyBits" (some .int)) (hX : x_R X = z_rm 0 0 0) (hK0 : z_K G a0 = 105) {ρ : (Int32 × Int32 × Int32) ⊕ (Unit ⊕ Int32)} (h : c_X5_keyBits_28 G D a0 a1 a2 a3 a4 a5 = some ρ) (hk : k_X5_keyBits_28 q X Q G D a0 a1 a2 ρ) : z_V q X 7 Q 0 0 G D 28 [(0, .ref (z_w q a0)), (1, .int a1), (2, .int a2), (3, .int a3), (4, .int a4), (5, .int a5)] [] := by
  unfold c_X5_keyBits_28 at h
  refine v_iload o dX5_keyBits_28 5 rfl ?_
  refine v_iload_n o dX5_keyBits_30 rfl 1 rfl ?_
  refine v_iload_n o dX5_keyBits_31 rfl 2 rfl ?_
  refine v_iadd o dX5_keyBits_32 ?_
  refine v_icmp_ge o 78 dX5_keyBits_33 (by decide) (fun c4 => ?_) (fun c4 => ?_)
  · replace h := z_ip c4 h
    obtain rfl := z_some h
    refine v_sub [3] rfl ?_
    exact hk
  · replace h := z_in c4 h
    refine v_aload_n o dX5_keyBits_36 rfl 0 rfl ?_
    obtain ⟨n5, h⟩ := z_gK_of h
    refine gt_5_0 o hK0 ln_1_32 (by rw [n5]; decide) dX5_keyBits_37 ?_
    refine v_iload o dX5_keyBits_40 5 rfl ?_
    obtain ⟨n6, n7, h⟩ := z_gA_of h
    refine v_iald o n6 n7 dX5_keyBits_42 ?_
    refine v_istore o [(6, .int (z_U D (z_R G 500 a0) (a5).toNatClampNeg)), (0, .ref (z_w q a0)), (1, .int a1), (2, .int a2), (3, .int a3), (4, .int a4), (5, .int a5)] dX5_keyBits_43 (by decide) rfl ?_
    refine v_iload o dX5_keyBits_45 0 rfl ?_
    refine v_iload o dX5_keyBits_47 5 rfl ?_
    refine v_icmp_le o 59 dX5_keyBits_49 (by decide) (fun c8 => ?_) (fun c8 => ?_)
    · replace h := z_ip c8 h
      obtain rfl := z_some h
      refine v_sub [] rfl ?_
      exact hk
    · replace h := z_in c8 h
      refine v_iload o dX5_keyBits_52 0 rfl ?_
      refine v_bipush o (16 : Int32) dX5_keyBits_54 (by decide) ?_
      refine v_icmp_lt o 61 dX5_keyBits_56 (by decide) (fun c9 => ?_) (fun c9 => ?_)
      · replace h := z_ip c9 h
        refine v_iload_n o dX5_keyBits_61 rfl 4 rfl ?_
        refine v_iconst o (1 : Int32) dX5_keyBits_62 (by decide) ?_
        refine v_iload o dX5_keyBits_63 0 rfl ?_
        refine v_ishl o dX5_keyBits_65 ?_
        refine v_ior o dX5_keyBits_66 ?_
        refine v_istore_n o [(3, .int (a3 ||| ((1 : Int32) <<< ((z_U D (z_R G 500 a0) (a5).toNatClampNeg) &&& 31)))), (6, .int (z_U D (z_R G 500 a0) (a5).toNatClampNeg)), (0, .ref (z_w q a0)), (1, .int a1), (2, .int a2), (4, .int a4), (5, .int a5)] dX5_keyBits_67 rfl (by decide) rfl ?_
        refine v_iload o dX5_keyBits_68 1 rfl ?_
        refine v_istore o [(4, .int (z_U D (z_R G 500 a0) (a5).toNatClampNeg)), (3, .int (a3 ||| ((1 : Int32) <<< ((z_U D (z_R G 500 a0) (a5).toNatClampNeg) &&& 31)))), (6, .int (z_U D (z_R G 500 a0) (a5).toNatClampNeg)), (0, .ref (z_w q a0)), (1, .int a1), (2, .int a2), (5, .int a5)] dX5_keyBits_70 (by decide) rfl ?_
        refine v_iinc o (a5 + (1 : Int32)) [(5, .int (a5 + (1 : Int32))), (4, .int (z_U D (z_R G 500 a0) (a5).toNatClampNeg)), (3, .int (a3 ||| ((1 : Int32) <<< ((z_U D (z_R G 500 a0) (a5).toNatClampNeg) &&& 31)))), (6, .int (z_U D (z_R G 500 a0) (a5).toNatClampNeg)), (0, .ref (z_w q a0)), (1, .int a1), (2, .int a2)] dX5_keyBits_72 6 rfl rfl (by decide) rfl ?_
        refine v_goto o 28 dX5_keyBits_75 (by decide) ?_
        obtain rfl := z_some h
        refine v_sub [4, 5, 6, 2, 1, 0] rfl ?_
        exact hk
      · replace h := z_in c9 h
        obtain rfl := z_some h
        refine v_sub [] rfl ?_
        exact hk
def f_X5_keyBits (G : z_G) (D : z_D) (a0 : Nat) (a1 : Int32) (a2 : Int32) : Option (Int32) :=
  (if a1 < (0 : Int32) then ((some (-1 : Int32))) else ((if a2 < (0 : Int32) then ((some (-1 : Int32))) else ((if a1 ≤ ((z_I D 501 a0) - a2) then (((z_loop (fun v => c_X5_keyBits_28 G D a0 a1 a2 v.1 v.2.1 v.2.2) 4000 ((0 : Int32), (-1 : Int32), a1)).bind (Sum.elim (fun e10 => (some (-1 : Int32))) (fun e10 => (some e10))))) else ((some (-1 : Int32))))))))
set_option maxRecDepth 100000 in
set_option maxHeartbeats 4000000 in
theorem b_X5_keyBits {q : z_Q} {X : z_X} {G : z_G} {D : z_D} {a0 : Nat} {a1 : Int32} {a2 : Int32} {r : Int32} (o : z_O q X cX5_keyBits 7 "FlashTrust$Row" "keyBits" (some .int)) (hX : x_R X = z_rm 0 0 0) (hK0 : z_K G a0 = 105) (h : f_X5_keyBits G D a0 a1 a2 = some r) : z_V q X 7 (z_F q X (some (.int r)) G D 0 0) 0 0 G D 0 [(0, .ref (z_w q a0)), (1, .int a1), (2, .int a2)] [] := by
  unfold f_X5_keyBits at h
  refine v_iload_n o dX5_keyBits_0 rfl 1 rfl ?_
  refine v_if_lt o 18 dX5_keyBits_1 (by decide) (fun c1 => ?_) (fun c1 => ?_)
  · replace h := z_ip c1 h
    refine v_iconst o (-1 : Int32) dX5_keyBits_18 (by decide) ?_
    have hr := z_some h
    subst hr
    exact v_ireturn o dX5_keyBits_19
  · replace h := z_in c1 h
    refine v_iload_n o dX5_keyBits_4 rfl 2 rfl ?_
    refine v_if_lt o 18 dX5_keyBits_5 (by decide) (fun c2 => ?_) (fun c2 => ?_)
    · replace h := z_ip c2 h
      refine v_iconst o (-1 : Int32) dX5_keyBits_18 (by decide) ?_
      have hr := z_some h
      subst hr
      exact v_ireturn o dX5_keyBits_19
    · replace h := z_in c2 h
      refine v_iload_n o dX5_keyBits_8 rfl 1 rfl ?_
      refine v_aload_n o dX5_keyBits_9 rfl 0 rfl ?_
      refine gt_5_1 o hK0 ln_1_33 dX5_keyBits_10 ?_
      refine v_iload_n o dX5_keyBits_13 rfl 2 rfl ?_
      refine v_isub o dX5_keyBits_14 ?_
      refine v_icmp_le o 20 dX5_keyBits_15 (by decide) (fun c3 => ?_) (fun c3 => ?_)
      · replace h := z_ip c3 h
        refine v_iconst o (0 : Int32) dX5_keyBits_20 (by decide) ?_
        refine v_istore_n o [(3, .int (0 : Int32)), (0, .ref (z_w q a0)), (1, .int a1), (2, .int a2)] dX5_keyBits_21 rfl (by decide) rfl ?_
        refine v_iconst o (-1 : Int32) dX5_keyBits_22 (by decide) ?_
        refine v_istore o [(4, .int (-1 : Int32)), (3, .int (0 : Int32)), (0, .ref (z_w q a0)), (1, .int a1), (2, .int a2)] dX5_keyBits_23 (by decide) rfl ?_
        refine v_iload_n o dX5_keyBits_25 rfl 3 rfl ?_
        refine v_istore o [(5, .int a1), (4, .int (-1 : Int32)), (3, .int (0 : Int32)), (0, .ref (z_w q a0)), (1, .int a1), (2, .int a2)] dX5_keyBits_26 (by decide) rfl ?_
        refine v_sub [3, 4, 5, 2, 1, 0] rfl ?_
        obtain ⟨e10, he11, h⟩ := z_bind h
        refine z_loopV (P := p_X5_keyBits_28 q X _ G D a0 a1 a2) (E := x_X5_keyBits_28 q X _ G D a0 a1 a2) (fun v ρ hb hk => tc_X5_keyBits_28 (D := D) (a0 := a0) (a1 := a1) (a2 := a2) (a3 := v.1) (a4 := v.2.1) (a5 := v.2.2) o hX hK0 hb hk) 4000 _ e10 he11 ?_
        rcases e10 with e10 | e10
        · replace h := z_el h
          show z_V q X 7 _ _ _ G D 59 [] []
          refine v_iconst o (-1 : Int32) dX5_keyBits_59 (by decide) ?_
          have hr := z_some h
          subst hr
          exact v_ireturn o dX5_keyBits_60
        · replace h := z_er h
          show z_V q X 7 _ _ _ G D 78 [(3, .int e10)] []
          refine v_iload_n o dX5_keyBits_78 rfl 0 rfl ?_
          have hr := z_some h
          subst hr
          exact v_ireturn o dX5_keyBits_79
      · replace h := z_in c3 h
        refine v_iconst o (-1 : Int32) dX5_keyBits_18 (by decide) ?_
        have hr := z_some h
        subst hr
        exact v_ireturn o dX5_keyBits_19
theorem e_X5_keyBits {q : z_Q} {l : Launch} {G : z_G} {D : z_D} {a0 : Nat} {a1 : Int32} {a2 : Int32} {r : Int32} (hK0 : z_K G a0 = 105) (h : f_X5_keyBits G D a0 a1 a2 = some r) : z_E q l yX5_keyBits cX5_keyBits 7 (some .int) 0 0 0 [.ref (z_w q a0), .int a1, .int a2] G D (some (.int r)) G D :=
  z_E.of (by decide) (Nat.le_of_ble_eq_true rfl) (fun X hX _ o => b_X5_keyBits o hX hK0 h)
def f_J6_bitCount_0f7a4 (G : z_G) (D : z_D) (a0 : Int32) : Option (Int32) :=
  (some ((((((((a0 - (((a0).toUInt32 >>> (((1 : Int32)).toUInt32 &&& Int32.toUInt32 31)).toInt32 &&& (1431655765 : Int32))) &&& (858993459 : Int32)) + ((((a0 - (((a0).toUInt32 >>> (((1 : Int32)).toUInt32 &&& Int32.toUInt32 31)).toInt32 &&& (1431655765 : Int32)))).toUInt32 >>> (((2 : Int32)).toUInt32 &&& Int32.toUInt32 31)).toInt32 &&& (858993459 : Int32))) + (((((a0 - (((a0).toUInt32 >>> (((1 : Int32)).toUInt32 &&& Int32.toUInt32 31)).toInt32 &&& (1431655765 : Int32))) &&& (858993459 : Int32)) + ((((a0 - (((a0).toUInt32 >>> (((1 : Int32)).toUInt32 &&& Int32.toUInt32 31)).toInt32 &&& (1431655765 : Int32)))).toUInt32 >>> (((2 : Int32)).toUInt32 &&& Int32.toUInt32 31)).toInt32 &&& (858993459 : Int32)))).toUInt32 >>> (((4 : Int32)).toUInt32 &&& Int32.toUInt32 31)).toInt32) &&& (252645135 : Int32)) + (((((((a0 - (((a0).toUInt32 >>> (((1 : Int32)).toUInt32 &&& Int32.toUInt32 31)).toInt32 &&& (1431655765 : Int32))) &&& (858993459 : Int32)) + ((((a0 - (((a0).toUInt32 >>> (((1 : Int32)).toUInt32 &&& Int32.toUInt32 31)).toInt32 &&& (1431655765 : Int32)))).toUInt32 >>> (((2 : Int32)).toUInt32 &&& Int32.toUInt32 31)).toInt32 &&& (858993459 : Int32))) + (((((a0 - (((a0).toUInt32 >>> (((1 : Int32)).toUInt32 &&& Int32.toUInt32 31)).toInt32 &&& (1431655765 : Int32))) &&& (858993459 : Int32)) + ((((a0 - (((a0).toUInt32 >>> (((1 : Int32)).toUInt32 &&& Int32.toUInt32 31)).toInt32 &&& (1431655765 : Int32)))).toUInt32 >>> (((2 : Int32)).toUInt32 &&& Int32.toUInt32 31)).toInt32 &&& (858993459 : Int32)))).toUInt32 >>> (((4 : Int32)).toUInt32 &&& Int32.toUInt32 31)).toInt32) &&& (252645135 : Int32))).toUInt32 >>> (((8 : Int32)).toUInt32 &&& Int32.toUInt32 31)).toInt32) + ((((((((a0 - (((a0).toUInt32 >>> (((1 : Int32)).toUInt32 &&& Int32.toUInt32 31)).toInt32 &&& (1431655765 : Int32))) &&& (858993459 : Int32)) + ((((a0 - (((a0).toUInt32 >>> (((1 : Int32)).toUInt32 &&& Int32.toUInt32 31)).toInt32 &&& (1431655765 : Int32)))).toUInt32 >>> (((2 : Int32)).toUInt32 &&& Int32.toUInt32 31)).toInt32 &&& (858993459 : Int32))) + (((((a0 - (((a0).toUInt32 >>> (((1 : Int32)).toUInt32 &&& Int32.toUInt32 31)).toInt32 &&& (1431655765 : Int32))) &&& (858993459 : Int32)) + ((((a0 - (((a0).toUInt32 >>> (((1 : Int32)).toUInt32 &&& Int32.toUInt32 31)).toInt32 &&& (1431655765 : Int32)))).toUInt32 >>> (((2 : Int32)).toUInt32 &&& Int32.toUInt32 31)).toInt32 &&& (858993459 : Int32)))).toUInt32 >>> (((4 : Int32)).toUInt32 &&& Int32.toUInt32 31)).toInt32) &&& (252645135 : Int32)) + (((((((a0 - (((a0).toUInt32 >>> (((1 : Int32)).toUInt32 &&& Int32.toUInt32 31)).toInt32 &&& (1431655765 : Int32))) &&& (858993459 : Int32)) + ((((a0 - (((a0).toUInt32 >>> (((1 : Int32)).toUInt32 &&& Int32.toUInt32 31)).toInt32 &&& (1431655765 : Int32)))).toUInt32 >>> (((2 : Int32)).toUInt32 &&& Int32.toUInt32 31)).toInt32 &&& (858993459 : Int32))) + (((((a0 - (((a0).toUInt32 >>> (((1 : Int32)).toUInt32 &&& Int32.toUInt32 31)).toInt32 &&& (1431655765 : Int32))) &&& (858993459 : Int32)) + ((((a0 - (((a0).toUInt32 >>> (((1 : Int32)).toUInt32 &&& Int32.toUInt32 31)).toInt32 &&& (1431655765 : Int32)))).toUInt32 >>> (((2 : Int32)).toUInt32 &&& Int32.toUInt32 31)).toInt32 &&& (858993459 : Int32)))).toUInt32 >>> (((4 : Int32)).toUInt32 &&& Int32.toUInt32 31)).toInt32) &&& (252645135 : Int32))).toUInt32 >>> (((8 : Int32)).toUInt32 &&& Int32.toUInt32 31)).toInt32)).toUInt32 >>> (((16 : Int32)).toUInt32 &&& Int32.toUInt32 31)).toInt32) &&& (63 : Int32)))
set_option maxRecDepth 100000 in
set_option maxHeartbeats 4000000 in
theorem b_J6_bitCount_0f7a4 {q : z_Q} {X : z_X} {G : z_G} {D : z_D} {a0 : Int32} {r : Int32} (o : z_O q X cJ6_bitCount_0f7a4 1 "java/lang/Integer" "bitCount" (some .int)) (hX : x_R X = z_rm 0 0 0)  (h : f_J6_bitCount_0f7a4 G D a0 = some r) : z_V q X 1 (z_F q X (some (.int r)) G D 0 0) 0 0 G D 0 [(0, .int a0)] [] := by
  unfold f_J6_bitCount_0f7a4 at h
  refine v_iload_n o dJ6_bitCount_0f7a4_0 rfl 0 rfl ?_
  refine v_iload_n o dJ6_bitCount_0f7a4_1 rfl 0 rfl ?_
  refine v_iconst o (1 : Int32) dJ6_bitCount_0f7a4_2 (by decide) ?_
  refine v_iushr o dJ6_bitCount_0f7a4_3 ?_
  refine v_ldcw o ln_3_86 dJ6_bitCount_0f7a4_4 ?_
  refine v_iand o dJ6_bitCount_0f7a4_7 ?_
  refine v_isub o dJ6_bitCount_0f7a4_8 ?_
  refine v_istore_n o [(0, .int (a0 - (((a0).toUInt32 >>> (((1 : Int32)).toUInt32 &&& Int32.toUInt32 31)).toInt32 &&& (1431655765 : Int32))))] dJ6_bitCount_0f7a4_9 rfl (by decide) rfl ?_
  refine v_iload_n o dJ6_bitCount_0f7a4_10 rfl 0 rfl ?_
  refine v_ldcw o ln_3_87 dJ6_bitCount_0f7a4_11 ?_
  refine v_iand o dJ6_bitCount_0f7a4_14 ?_
  refine v_iload_n o dJ6_bitCount_0f7a4_15 rfl 0 rfl ?_
  refine v_iconst o (2 : Int32) dJ6_bitCount_0f7a4_16 (by decide) ?_
  refine v_iushr o dJ6_bitCount_0f7a4_17 ?_
  refine v_ldcw o ln_3_87 dJ6_bitCount_0f7a4_18 ?_
  refine v_iand o dJ6_bitCount_0f7a4_21 ?_
  refine v_iadd o dJ6_bitCount_0f7a4_22 ?_
  refine v_istore_n o [(0, .int (((a0 - (((a0).toUInt32 >>> (((1 : Int32)).toUInt32 &&& Int32.toUInt32 31)).toInt32 &&& (1431655765 : Int32))) &&& (858993459 : Int32)) + ((((a0 - (((a0).toUInt32 >>> (((1 : Int32)).toUInt32 &&& Int32.toUInt32 31)).toInt32 &&& (1431655765 : Int32)))).toUInt32 >>> (((2 : Int32)).toUInt32 &&& Int32.toUInt32 31)).toInt32 &&& (858993459 : Int32))))] dJ6_bitCount_0f7a4_23 rfl (by decide) rfl ?_
  refine v_iload_n o dJ6_bitCount_0f7a4_24 rfl 0 rfl ?_
  refine v_iload_n o dJ6_bitCount_0f7a4_25 rfl 0 rfl ?_
  refine v_iconst o (4 : Int32) dJ6_bitCount_0f7a4_26 (by decide) ?_
  refine v_iushr o dJ6_bitCount_0f7a4_27 ?_
  refine v_iadd o dJ6_bitCount_0f7a4_28 ?_
  refine v_ldcw o ln_3_88 dJ6_bitCount_0f7a4_29 ?_
  refine v_iand o dJ6_bitCount_0f7a4_32 ?_
  refine v_istore_n o [(0, .int (((((a0 - (((a0).toUInt32 >>> (((1 : Int32)).toUInt32 &&& Int32.toUInt32 31)).toInt32 &&& (1431655765 : Int32))) &&& (858993459 : Int32)) + ((((a0 - (((a0).toUInt32 >>> (((1 : Int32)).toUInt32 &&& Int32.toUInt32 31)).toInt32 &&& (1431655765 : Int32)))).toUInt32 >>> (((2 : Int32)).toUInt32 &&& Int32.toUInt32 31)).toInt32 &&& (858993459 : Int32))) + (((((a0 - (((a0).toUInt32 >>> (((1 : Int32)).toUInt32 &&& Int32.toUInt32 31)).toInt32 &&& (1431655765 : Int32))) &&& (858993459 : Int32)) + ((((a0 - (((a0).toUInt32 >>> (((1 : Int32)).toUInt32 &&& Int32.toUInt32 31)).toInt32 &&& (1431655765 : Int32)))).toUInt32 >>> (((2 : Int32)).toUInt32 &&& Int32.toUInt32 31)).toInt32 &&& (858993459 : Int32)))).toUInt32 >>> (((4 : Int32)).toUInt32 &&& Int32.toUInt32 31)).toInt32) &&& (252645135 : Int32)))] dJ6_bitCount_0f7a4_33 rfl (by decide) rfl ?_
  refine v_iload_n o dJ6_bitCount_0f7a4_34 rfl 0 rfl ?_
  refine v_iload_n o dJ6_bitCount_0f7a4_35 rfl 0 rfl ?_
  refine v_bipush o (8 : Int32) dJ6_bitCount_0f7a4_36 (by decide) ?_
  refine v_iushr o dJ6_bitCount_0f7a4_38 ?_
  refine v_iadd o dJ6_bitCount_0f7a4_39 ?_
  refine v_istore_n o [(0, .int ((((((a0 - (((a0).toUInt32 >>> (((1 : Int32)).toUInt32 &&& Int32.toUInt32 31)).toInt32 &&& (1431655765 : Int32))) &&& (858993459 : Int32)) + ((((a0 - (((a0).toUInt32 >>> (((1 : Int32)).toUInt32 &&& Int32.toUInt32 31)).toInt32 &&& (1431655765 : Int32)))).toUInt32 >>> (((2 : Int32)).toUInt32 &&& Int32.toUInt32 31)).toInt32 &&& (858993459 : Int32))) + (((((a0 - (((a0).toUInt32 >>> (((1 : Int32)).toUInt32 &&& Int32.toUInt32 31)).toInt32 &&& (1431655765 : Int32))) &&& (858993459 : Int32)) + ((((a0 - (((a0).toUInt32 >>> (((1 : Int32)).toUInt32 &&& Int32.toUInt32 31)).toInt32 &&& (1431655765 : Int32)))).toUInt32 >>> (((2 : Int32)).toUInt32 &&& Int32.toUInt32 31)).toInt32 &&& (858993459 : Int32)))).toUInt32 >>> (((4 : Int32)).toUInt32 &&& Int32.toUInt32 31)).toInt32) &&& (252645135 : Int32)) + (((((((a0 - (((a0).toUInt32 >>> (((1 : Int32)).toUInt32 &&& Int32.toUInt32 31)).toInt32 &&& (1431655765 : Int32))) &&& (858993459 : Int32)) + ((((a0 - (((a0).toUInt32 >>> (((1 : Int32)).toUInt32 &&& Int32.toUInt32 31)).toInt32 &&& (1431655765 : Int32)))).toUInt32 >>> (((2 : Int32)).toUInt32 &&& Int32.toUInt32 31)).toInt32 &&& (858993459 : Int32))) + (((((a0 - (((a0).toUInt32 >>> (((1 : Int32)).toUInt32 &&& Int32.toUInt32 31)).toInt32 &&& (1431655765 : Int32))) &&& (858993459 : Int32)) + ((((a0 - (((a0).toUInt32 >>> (((1 : Int32)).toUInt32 &&& Int32.toUInt32 31)).toInt32 &&& (1431655765 : Int32)))).toUInt32 >>> (((2 : Int32)).toUInt32 &&& Int32.toUInt32 31)).toInt32 &&& (858993459 : Int32)))).toUInt32 >>> (((4 : Int32)).toUInt32 &&& Int32.toUInt32 31)).toInt32) &&& (252645135 : Int32))).toUInt32 >>> (((8 : Int32)).toUInt32 &&& Int32.toUInt32 31)).toInt32))] dJ6_bitCount_0f7a4_40 rfl (by decide) rfl ?_
  refine v_iload_n o dJ6_bitCount_0f7a4_41 rfl 0 rfl ?_
  refine v_iload_n o dJ6_bitCount_0f7a4_42 rfl 0 rfl ?_
  refine v_bipush o (16 : Int32) dJ6_bitCount_0f7a4_43 (by decide) ?_
  refine v_iushr o dJ6_bitCount_0f7a4_45 ?_
  refine v_iadd o dJ6_bitCount_0f7a4_46 ?_
  refine v_istore_n o [(0, .int (((((((a0 - (((a0).toUInt32 >>> (((1 : Int32)).toUInt32 &&& Int32.toUInt32 31)).toInt32 &&& (1431655765 : Int32))) &&& (858993459 : Int32)) + ((((a0 - (((a0).toUInt32 >>> (((1 : Int32)).toUInt32 &&& Int32.toUInt32 31)).toInt32 &&& (1431655765 : Int32)))).toUInt32 >>> (((2 : Int32)).toUInt32 &&& Int32.toUInt32 31)).toInt32 &&& (858993459 : Int32))) + (((((a0 - (((a0).toUInt32 >>> (((1 : Int32)).toUInt32 &&& Int32.toUInt32 31)).toInt32 &&& (1431655765 : Int32))) &&& (858993459 : Int32)) + ((((a0 - (((a0).toUInt32 >>> (((1 : Int32)).toUInt32 &&& Int32.toUInt32 31)).toInt32 &&& (1431655765 : Int32)))).toUInt32 >>> (((2 : Int32)).toUInt32 &&& Int32.toUInt32 31)).toInt32 &&& (858993459 : Int32)))).toUInt32 >>> (((4 : Int32)).toUInt32 &&& Int32.toUInt32 31)).toInt32) &&& (252645135 : Int32)) + (((((((a0 - (((a0).toUInt32 >>> (((1 : Int32)).toUInt32 &&& Int32.toUInt32 31)).toInt32 &&& (1431655765 : Int32))) &&& (858993459 : Int32)) + ((((a0 - (((a0).toUInt32 >>> (((1 : Int32)).toUInt32 &&& Int32.toUInt32 31)).toInt32 &&& (1431655765 : Int32)))).toUInt32 >>> (((2 : Int32)).toUInt32 &&& Int32.toUInt32 31)).toInt32 &&& (858993459 : Int32))) + (((((a0 - (((a0).toUInt32 >>> (((1 : Int32)).toUInt32 &&& Int32.toUInt32 31)).toInt32 &&& (1431655765 : Int32))) &&& (858993459 : Int32)) + ((((a0 - (((a0).toUInt32 >>> (((1 : Int32)).toUInt32 &&& Int32.toUInt32 31)).toInt32 &&& (1431655765 : Int32)))).toUInt32 >>> (((2 : Int32)).toUInt32 &&& Int32.toUInt32 31)).toInt32 &&& (858993459 : Int32)))).toUInt32 >>> (((4 : Int32)).toUInt32 &&& Int32.toUInt32 31)).toInt32) &&& (252645135 : Int32))).toUInt32 >>> (((8 : Int32)).toUInt32 &&& Int32.toUInt32 31)).toInt32) + ((((((((a0 - (((a0).toUInt32 >>> (((1 : Int32)).toUInt32 &&& Int32.toUInt32 31)).toInt32 &&& (1431655765 : Int32))) &&& (858993459 : Int32)) + ((((a0 - (((a0).toUInt32 >>> (((1 : Int32)).toUInt32 &&& Int32.toUInt32 31)).toInt32 &&& (1431655765 : Int32)))).toUInt32 >>> (((2 : Int32)).toUInt32 &&& Int32.toUInt32 31)).toInt32 &&& (858993459 : Int32))) + (((((a0 - (((a0).toUInt32 >>> (((1 : Int32)).toUInt32 &&& Int32.toUInt32 31)).toInt32 &&& (1431655765 : Int32))) &&& (858993459 : Int32)) + ((((a0 - (((a0).toUInt32 >>> (((1 : Int32)).toUInt32 &&& Int32.toUInt32 31)).toInt32 &&& (1431655765 : Int32)))).toUInt32 >>> (((2 : Int32)).toUInt32 &&& Int32.toUInt32 31)).toInt32 &&& (858993459 : Int32)))).toUInt32 >>> (((4 : Int32)).toUInt32 &&& Int32.toUInt32 31)).toInt32) &&& (252645135 : Int32)) + (((((((a0 - (((a0).toUInt32 >>> (((1 : Int32)).toUInt32 &&& Int32.toUInt32 31)).toInt32 &&& (1431655765 : Int32))) &&& (858993459 : Int32)) + ((((a0 - (((a0).toUInt32 >>> (((1 : Int32)).toUInt32 &&& Int32.toUInt32 31)).toInt32 &&& (1431655765 : Int32)))).toUInt32 >>> (((2 : Int32)).toUInt32 &&& Int32.toUInt32 31)).toInt32 &&& (858993459 : Int32))) + (((((a0 - (((a0).toUInt32 >>> (((1 : Int32)).toUInt32 &&& Int32.toUInt32 31)).toInt32 &&& (1431655765 : Int32))) &&& (858993459 : Int32)) + ((((a0 - (((a0).toUInt32 >>> (((1 : Int32)).toUInt32 &&& Int32.toUInt32 31)).toInt32 &&& (1431655765 : Int32)))).toUInt32 >>> (((2 : Int32)).toUInt32 &&& Int32.toUInt32 31)).toInt32 &&& (858993459 : Int32)))).toUInt32 >>> (((4 : Int32)).toUInt32 &&& Int32.toUInt32 31)).toInt32) &&& (252645135 : Int32))).toUInt32 >>> (((8 : Int32)).toUInt32 &&& Int32.toUInt32 31)).toInt32)).toUInt32 >>> (((16 : Int32)).toUInt32 &&& Int32.toUInt32 31)).toInt32))] dJ6_bitCount_0f7a4_47 rfl (by decide) rfl ?_
  refine v_iload_n o dJ6_bitCount_0f7a4_48 rfl 0 rfl ?_
  refine v_bipush o (63 : Int32) dJ6_bitCount_0f7a4_49 (by decide) ?_
  refine v_iand o dJ6_bitCount_0f7a4_51 ?_
  have hr := z_some h
  subst hr
  exact v_ireturn o dJ6_bitCount_0f7a4_52
theorem e_J6_bitCount_0f7a4 {q : z_Q} {l : Launch} {G : z_G} {D : z_D} {a0 : Int32} {r : Int32} (h : f_J6_bitCount_0f7a4 G D a0 = some r) : z_E q l yJ6_bitCount_0f7a4 cJ6_bitCount_0f7a4 1 (some .int) 0 0 0 [.int a0] G D (some (.int r)) G D :=
  z_E.of (by decide) (Nat.le_of_ble_eq_true rfl) (fun X hX _ o => b_J6_bitCount_0f7a4 o hX h)
def p_X5_addKeys_10 (q : z_Q) (X : z_X) (Q : State → Prop) (G : z_G) (a0 : Nat) (a1 : Int32) : (z_D × Int32) → Prop := (fun v => z_V q X 3 Q 0 0 G v.1 10 [(0, .ref (z_w q a0)), (1, .int a1), (2, .int v.2)] [])
def x_X5_addKeys_10 (q : z_Q) (X : z_X) (Q : State → Prop) (G : z_G) (a0 : Nat) (a1 : Int32) : z_D → Prop := (fun v => z_V q X 3 Q 0 0 G v 35 [] [])
def k_X5_addKeys_10 (q : z_Q) (X : z_X) (Q : State → Prop) (G : z_G) (a0 : Nat) (a1 : Int32) : (z_D × Int32) ⊕ z_D → Prop := Sum.elim (p_X5_addKeys_10 q X Q G a0 a1) (x_X5_addKeys_10 q X Q G a0 a1)
def c_X5_addKeys_10 (G : z_G) (D : z_D) (a0 : Nat) (a1 : Int32) (a2 : Int32) : Option ((z_D × Int32) ⊕ z_D) :=
  (if (16 : Int32) ≤ a2 then (some (.inr D)) else ((if ((a1 >>> (a2 &&& 31)) &&& (1 : Int32)) = (0 : Int32) then ((some (.inl (D, (a2 + (1 : Int32)))))) else ((f_X5_add G D a0 a2).bind (fun D8 => ((some (.inl (D8, (a2 + (1 : Int32)))))))))))
set_option maxRecDepth 100000 in
set_option maxHeartbeats 4000000 in
theorem tc_X5_addKeys_10 {q : z_Q} {X : z_X} {G : z_G} {D : z_D} {Q : State → Prop} {a0 : Nat} {a1 : Int32} {a2 : Int32} (o : z_O q X cX5_addKeys 3 "FlashTrust$Row" "addKeys" none) (hX : x_R X = z_rm 1 0 0) (hK0 : z_K G a0 = 105) {ρ : (z_D × Int32) ⊕ z_D} (h : c_X5_addKeys_10 G D a0 a1 a2 = some ρ) (hk : k_X5_addKeys_10 q X Q G a0 a1 ρ) : z_V q X 3 Q 0 0 G D 10 [(0, .ref (z_w q a0)), (1, .int a1), (2, .int a2)] [] := by
  unfold c_X5_addKeys_10 at h
  refine v_iload_n o dX5_addKeys_10 rfl 2 rfl ?_
  refine v_bipush o (16 : Int32) dX5_addKeys_11 (by decide) ?_
  refine v_icmp_ge o 35 dX5_addKeys_13 (by decide) (fun c5 => ?_) (fun c5 => ?_)
  · replace h := z_ip c5 h
    obtain rfl := z_some h
    refine v_sub [] rfl ?_
    exact hk
  · replace h := z_in c5 h
    refine v_iload_n o dX5_addKeys_16 rfl 1 rfl ?_
    refine v_iload_n o dX5_addKeys_17 rfl 2 rfl ?_
    refine v_ishr o dX5_addKeys_18 ?_
    refine v_iconst o (1 : Int32) dX5_addKeys_19 (by decide) ?_
    refine v_iand o dX5_addKeys_20 ?_
    refine v_if_eq o 29 dX5_addKeys_21 (by decide) (fun c6 => ?_) (fun c6 => ?_)
    · replace h := z_ip c6 h
      refine v_iinc o (a2 + (1 : Int32)) [(2, .int (a2 + (1 : Int32))), (0, .ref (z_w q a0)), (1, .int a1)] dX5_addKeys_29 2 rfl rfl (by decide) rfl ?_
      refine v_goto o 10 dX5_addKeys_32 (by decide) ?_
      obtain rfl := z_some h
      refine v_sub [1, 2, 0] rfl ?_
      exact hk
    · replace h := z_in c6 h
      refine v_aload_n o dX5_addKeys_24 rfl 0 rfl ?_
      refine v_iload_n o dX5_addKeys_25 rfl 2 rfl ?_
      obtain ⟨D8, he7, h⟩ := z_bind h
      refine v_callV o yw_X5_add ln_2_164 wi_X5_add ws_X5_add hX (by decide) 5 rfl hK0 (As := [.int a2]) rfl rfl (Nat.le_of_ble_eq_true rfl) (e_X5_add hK0 he7) dX5_addKeys_26 ?_
      refine v_iinc o (a2 + (1 : Int32)) [(2, .int (a2 + (1 : Int32))), (0, .ref (z_w q a0)), (1, .int a1)] dX5_addKeys_29 2 rfl rfl (by decide) rfl ?_
      refine v_goto o 10 dX5_addKeys_32 (by decide) ?_
      obtain rfl := z_some h
      refine v_sub [1, 2, 0] rfl ?_
      exact hk
def f_X5_addKeys (G : z_G) (D : z_D) (a0 : Nat) (a1 : Int32) : Option (z_D) :=
  (f_J6_bitCount_0f7a4 G D a1).bind (fun r2 => ((f_X5_add G D a0 r2).bind (fun D4 => (((z_loop (fun v => c_X5_addKeys_10 G v.1 a0 a1 v.2) 4000 (D4, (0 : Int32))).bind (fun e9 => (some e9)))))))
set_option maxRecDepth 100000 in
set_option maxHeartbeats 4000000 in
theorem b_X5_addKeys {q : z_Q} {X : z_X} {G : z_G} {D : z_D} {a0 : Nat} {a1 : Int32}  {D1 : z_D} (o : z_O q X cX5_addKeys 3 "FlashTrust$Row" "addKeys" none) (hX : x_R X = z_rm 1 0 0) (hK0 : z_K G a0 = 105) (h : f_X5_addKeys G D a0 a1 = some D1) : z_V q X 3 (z_F q X none G D1 0 0) 0 0 G D 0 [(0, .ref (z_w q a0)), (1, .int a1)] [] := by
  unfold f_X5_addKeys at h
  refine v_aload_n o dX5_addKeys_0 rfl 0 rfl ?_
  refine v_iload_n o dX5_addKeys_1 rfl 1 rfl ?_
  obtain ⟨r2, he1, h⟩ := z_bind h
  refine v_callS o yw_J6_bitCount_0f7a4 ln_3_131 ws_J6_bitCount_0f7a4 hX (by decide) (As := [.int a1]) rfl rfl (Nat.le_of_ble_eq_true rfl) (e_J6_bitCount_0f7a4 he1) dX5_addKeys_2 ?_
  obtain ⟨D4, he3, h⟩ := z_bind h
  refine v_callV o yw_X5_add ln_2_164 wi_X5_add ws_X5_add hX (by decide) 5 rfl hK0 (As := [.int r2]) rfl rfl (Nat.le_of_ble_eq_true rfl) (e_X5_add hK0 he3) dX5_addKeys_5 ?_
  refine v_iconst o (0 : Int32) dX5_addKeys_8 (by decide) ?_
  refine v_istore_n o [(2, .int (0 : Int32)), (0, .ref (z_w q a0)), (1, .int a1)] dX5_addKeys_9 rfl (by decide) rfl ?_
  refine v_sub [1, 2, 0] rfl ?_
  obtain ⟨e9, he10, h⟩ := z_bind h
  refine z_loopV (P := p_X5_addKeys_10 q X _ G a0 a1) (E := x_X5_addKeys_10 q X _ G a0 a1) (fun v ρ hb hk => tc_X5_addKeys_10 (D := v.1) (a0 := a0) (a1 := a1) (a2 := v.2) o hX hK0 hb hk) 4000 _ e9 he10 ?_
  show z_V q X 3 _ _ _ G e9 35 [] []
  have hr := z_some h
  subst hr
  exact v_return o dX5_addKeys_35
theorem e_X5_addKeys {q : z_Q} {l : Launch} {G : z_G} {D : z_D} {a0 : Nat} {a1 : Int32}  {D1 : z_D} (hK0 : z_K G a0 = 105) (h : f_X5_addKeys G D a0 a1 = some D1) : z_E q l yX5_addKeys cX5_addKeys 3 none 1 0 0 [.ref (z_w q a0), .int a1] G D none G D1 :=
  z_E.of (by decide) (Nat.le_of_ble_eq_true rfl) (fun X hX _ o => b_X5_addKeys o hX hK0 h)
def p_X5_hash_27 (q : z_Q) (X : z_X) (Q : State → Prop) (G : z_G) (D : z_D) (a0 : Nat) (a1 : Int32) (a2 : Int32) : (Int64 × Int32) → Prop := (fun v => z_V q X 6 Q 0 0 G D 27 [(0, .ref (z_w q a0)), (1, .int a1), (2, .int a2), (3, .long v.1), (5, .int v.2)] [])
def x_X5_hash_27 (q : z_Q) (X : z_X) (Q : State → Prop) (G : z_G) (D : z_D) (a0 : Nat) (a1 : Int32) (a2 : Int32) : Int64 → Prop := (fun v => z_V q X 6 Q 0 0 G D 63 [(3, .long v)] [])
def k_X5_hash_27 (q : z_Q) (X : z_X) (Q : State → Prop) (G : z_G) (D : z_D) (a0 : Nat) (a1 : Int32) (a2 : Int32) : (Int64 × Int32) ⊕ Int64 → Prop := Sum.elim (p_X5_hash_27 q X Q G D a0 a1 a2) (x_X5_hash_27 q X Q G D a0 a1 a2)
def c_X5_hash_27 (G : z_G) (D : z_D) (a0 : Nat) (a1 : Int32) (a2 : Int32) (a3 : Int64) (a5 : Int32) : Option ((Int64 × Int32) ⊕ Int64) :=
  (if (a1 + a2) ≤ a5 then (some (.inr a3)) else (z_gK G 1 (z_R G 500 a0) (z_gA G 1 (z_R G 500 a0) a5 ((some (.inl ((((a3 ^^^ ((z_U D (z_R G 500 a0) (a5).toNatClampNeg)).toInt64) * (1099511628211 : Int64)) ^^^ ((((a3 ^^^ ((z_U D (z_R G 500 a0) (a5).toNatClampNeg)).toInt64) * (1099511628211 : Int64))).toUInt64 >>> (((29 : Int32)).toInt64.toUInt64 &&& Int64.toUInt64 63)).toInt64), (a5 + (1 : Int32)))))))))
set_option maxRecDepth 100000 in
set_option maxHeartbeats 4000000 in
theorem tc_X5_hash_27 {q : z_Q} {X : z_X} {G : z_G} {D : z_D} {Q : State → Prop} {a0 : Nat} {a1 : Int32} {a2 : Int32} {a3 : Int64} {a5 : Int32} (o : z_O q X cX5_hash 6 "FlashTrust$Row" "hash" (some .long)) (hX : x_R X = z_rm 0 0 0) (hK0 : z_K G a0 = 105) {ρ : (Int64 × Int32) ⊕ Int64} (h : c_X5_hash_27 G D a0 a1 a2 a3 a5 = some ρ) (hk : k_X5_hash_27 q X Q G D a0 a1 a2 ρ) : z_V q X 6 Q 0 0 G D 27 [(0, .ref (z_w q a0)), (1, .int a1), (2, .int a2), (3, .long a3), (5, .int a5)] [] := by
  unfold c_X5_hash_27 at h
  refine v_iload o dX5_hash_27 4 rfl ?_
  refine v_iload_n o dX5_hash_29 rfl 1 rfl ?_
  refine v_iload_n o dX5_hash_30 rfl 2 rfl ?_
  refine v_iadd o dX5_hash_31 ?_
  refine v_icmp_ge o 63 dX5_hash_32 (by decide) (fun c4 => ?_) (fun c4 => ?_)
  · replace h := z_ip c4 h
    obtain rfl := z_some h
    refine v_sub [3] rfl ?_
    exact hk
  · replace h := z_in c4 h
    refine v_lload_n o dX5_hash_35 rfl 3 rfl ?_
    refine v_aload_n o dX5_hash_36 rfl 0 rfl ?_
    obtain ⟨n5, h⟩ := z_gK_of h
    refine gt_5_0 o hK0 ln_1_32 (by rw [n5]; decide) dX5_hash_37 ?_
    refine v_iload o dX5_hash_40 4 rfl ?_
    obtain ⟨n6, n7, h⟩ := z_gA_of h
    refine v_iald o n6 n7 dX5_hash_42 ?_
    refine v_i2l o dX5_hash_43 ?_
    refine v_lxor o dX5_hash_44 ?_
    refine v_ldc2 o ln_2_79 dX5_hash_45 ?_
    refine v_lmul o dX5_hash_48 ?_
    refine v_lstore_n o [(3, .long ((a3 ^^^ ((z_U D (z_R G 500 a0) (a5).toNatClampNeg)).toInt64) * (1099511628211 : Int64))), (0, .ref (z_w q a0)), (1, .int a1), (2, .int a2), (5, .int a5)] dX5_hash_49 rfl (by decide) rfl ?_
    refine v_lload_n o dX5_hash_50 rfl 0 rfl ?_
    refine v_lload_n o dX5_hash_51 rfl 0 rfl ?_
    refine v_bipush o (29 : Int32) dX5_hash_52 (by decide) ?_
    refine v_lushr o dX5_hash_54 ?_
    refine v_lxor o dX5_hash_55 ?_
    refine v_lstore_n o [(3, .long (((a3 ^^^ ((z_U D (z_R G 500 a0) (a5).toNatClampNeg)).toInt64) * (1099511628211 : Int64)) ^^^ ((((a3 ^^^ ((z_U D (z_R G 500 a0) (a5).toNatClampNeg)).toInt64) * (1099511628211 : Int64))).toUInt64 >>> (((29 : Int32)).toInt64.toUInt64 &&& Int64.toUInt64 63)).toInt64)), (0, .ref (z_w q a0)), (1, .int a1), (2, .int a2), (5, .int a5)] dX5_hash_56 rfl (by decide) rfl ?_
    refine v_iinc o (a5 + (1 : Int32)) [(5, .int (a5 + (1 : Int32))), (3, .long (((a3 ^^^ ((z_U D (z_R G 500 a0) (a5).toNatClampNeg)).toInt64) * (1099511628211 : Int64)) ^^^ ((((a3 ^^^ ((z_U D (z_R G 500 a0) (a5).toNatClampNeg)).toInt64) * (1099511628211 : Int64))).toUInt64 >>> (((29 : Int32)).toInt64.toUInt64 &&& Int64.toUInt64 63)).toInt64)), (0, .ref (z_w q a0)), (1, .int a1), (2, .int a2)] dX5_hash_57 4 rfl rfl (by decide) rfl ?_
    refine v_goto o 27 dX5_hash_60 (by decide) ?_
    obtain rfl := z_some h
    refine v_sub [2, 3, 4, 1, 0] rfl ?_
    exact hk
def f_X5_hash (G : z_G) (D : z_D) (a0 : Nat) (a1 : Int32) (a2 : Int32) : Option (Int64) :=
  (if a1 < (0 : Int32) then ((some (1469598103934665603 : Int64))) else ((if a2 < (0 : Int32) then ((some (1469598103934665603 : Int64))) else ((if a1 ≤ ((z_I D 501 a0) - a2) then (((z_loop (fun v => c_X5_hash_27 G D a0 a1 a2 v.1 v.2) 4000 ((1469598103934665603 : Int64), a1)).bind (fun e8 => (some e8)))) else ((some (1469598103934665603 : Int64))))))))
set_option maxRecDepth 100000 in
set_option maxHeartbeats 4000000 in
theorem b_X5_hash {q : z_Q} {X : z_X} {G : z_G} {D : z_D} {a0 : Nat} {a1 : Int32} {a2 : Int32} {r : Int64} (o : z_O q X cX5_hash 6 "FlashTrust$Row" "hash" (some .long)) (hX : x_R X = z_rm 0 0 0) (hK0 : z_K G a0 = 105) (h : f_X5_hash G D a0 a1 a2 = some r) : z_V q X 6 (z_F q X (some (.long r)) G D 0 0) 0 0 G D 0 [(0, .ref (z_w q a0)), (1, .int a1), (2, .int a2)] [] := by
  unfold f_X5_hash at h
  refine v_ldc2 o ln_2_78 dX5_hash_0 ?_
  refine v_lstore_n o [(3, .long (1469598103934665603 : Int64)), (0, .ref (z_w q a0)), (1, .int a1), (2, .int a2)] dX5_hash_3 rfl (by decide) rfl ?_
  refine v_iload_n o dX5_hash_4 rfl 2 rfl ?_
  refine v_if_lt o 22 dX5_hash_5 (by decide) (fun c1 => ?_) (fun c1 => ?_)
  · replace h := z_ip c1 h
    refine v_lload_n o dX5_hash_22 rfl 0 rfl ?_
    have hr := z_some h
    subst hr
    exact v_lreturn o dX5_hash_23
  · replace h := z_in c1 h
    refine v_iload_n o dX5_hash_8 rfl 3 rfl ?_
    refine v_if_lt o 22 dX5_hash_9 (by decide) (fun c2 => ?_) (fun c2 => ?_)
    · replace h := z_ip c2 h
      refine v_lload_n o dX5_hash_22 rfl 0 rfl ?_
      have hr := z_some h
      subst hr
      exact v_lreturn o dX5_hash_23
    · replace h := z_in c2 h
      refine v_iload_n o dX5_hash_12 rfl 2 rfl ?_
      refine v_aload_n o dX5_hash_13 rfl 1 rfl ?_
      refine gt_5_1 o hK0 ln_1_33 dX5_hash_14 ?_
      refine v_iload_n o dX5_hash_17 rfl 3 rfl ?_
      refine v_isub o dX5_hash_18 ?_
      refine v_icmp_le o 24 dX5_hash_19 (by decide) (fun c3 => ?_) (fun c3 => ?_)
      · replace h := z_ip c3 h
        refine v_iload_n o dX5_hash_24 rfl 2 rfl ?_
        refine v_istore o [(5, .int a1), (3, .long (1469598103934665603 : Int64)), (0, .ref (z_w q a0)), (1, .int a1), (2, .int a2)] dX5_hash_25 (by decide) rfl ?_
        refine v_sub [2, 3, 4, 1, 0] rfl ?_
        obtain ⟨e8, he9, h⟩ := z_bind h
        refine z_loopV (P := p_X5_hash_27 q X _ G D a0 a1 a2) (E := x_X5_hash_27 q X _ G D a0 a1 a2) (fun v ρ hb hk => tc_X5_hash_27 (D := D) (a0 := a0) (a1 := a1) (a2 := a2) (a3 := v.1) (a5 := v.2) o hX hK0 hb hk) 4000 _ e8 he9 ?_
        show z_V q X 6 _ _ _ G D 63 [(3, .long e8)] []
        refine v_lload_n o dX5_hash_63 rfl 0 rfl ?_
        have hr := z_some h
        subst hr
        exact v_lreturn o dX5_hash_64
      · replace h := z_in c3 h
        refine v_lload_n o dX5_hash_22 rfl 0 rfl ?_
        have hr := z_some h
        subst hr
        exact v_lreturn o dX5_hash_23
theorem e_X5_hash {q : z_Q} {l : Launch} {G : z_G} {D : z_D} {a0 : Nat} {a1 : Int32} {a2 : Int32} {r : Int64} (hK0 : z_K G a0 = 105) (h : f_X5_hash G D a0 a1 a2 = some r) : z_E q l yX5_hash cX5_hash 6 (some .long) 0 0 0 [.ref (z_w q a0), .int a1, .int a2] G D (some (.long r)) G D :=
  z_E.of (by decide) (Nat.le_of_ble_eq_true rfl) (fun X hX _ o => b_X5_hash o hX hK0 h)
def f_X5_checkOf (G : z_G) (D : z_D) (a0 : Int64) : Option (Int64) :=
  (if (lg_cmp (((a0).toUInt64 >>> (((32 : Int32)).toInt64.toUInt64 &&& Int64.toUInt64 63)).toInt64) (4294967295 : Int64)) = (0 : Int32) then (((some (((a0).toUInt64 >>> (((32 : Int32)).toInt64.toUInt64 &&& Int64.toUInt64 63)).toInt64 - (1 : Int64))))) else ((some (((a0).toUInt64 >>> (((32 : Int32)).toInt64.toUInt64 &&& Int64.toUInt64 63)).toInt64))))
set_option maxRecDepth 100000 in
set_option maxHeartbeats 4000000 in
theorem b_X5_checkOf {q : z_Q} {X : z_X} {G : z_G} {D : z_D} {a0 : Int64} {r : Int64} (o : z_O q X cX5_checkOf 4 "FlashTrust$Row" "checkOf" (some .long)) (hX : x_R X = z_rm 0 0 0)  (h : f_X5_checkOf G D a0 = some r) : z_V q X 4 (z_F q X (some (.long r)) G D 0 0) 0 0 G D 0 [(0, .long a0)] [] := by
  unfold f_X5_checkOf at h
  refine v_lload_n o dX5_checkOf_0 rfl 0 rfl ?_
  refine v_bipush o (32 : Int32) dX5_checkOf_1 (by decide) ?_
  refine v_lushr o dX5_checkOf_3 ?_
  refine v_lstore_n o [(2, .long ((a0).toUInt64 >>> (((32 : Int32)).toInt64.toUInt64 &&& Int64.toUInt64 63)).toInt64), (0, .long a0)] dX5_checkOf_4 rfl (by decide) rfl ?_
  refine v_lload_n o dX5_checkOf_5 rfl 0 rfl ?_
  refine v_ldc2 o ln_2_169 dX5_checkOf_6 ?_
  refine v_lcmp o dX5_checkOf_9 ?_
  refine v_if_ne o 19 dX5_checkOf_10 (by decide) (fun c1 => ?_) (fun c1 => ?_)
  · replace h := z_in c1 h
    refine v_lload_n o dX5_checkOf_19 rfl 0 rfl ?_
    have hr := z_some h
    subst hr
    exact v_lreturn o dX5_checkOf_20
  · replace h := z_ip c1 h
    refine v_lload_n o dX5_checkOf_13 rfl 0 rfl ?_
    refine v_lconst o (1 : Int64) dX5_checkOf_14 (by decide) ?_
    refine v_lsub o dX5_checkOf_15 ?_
    refine v_goto o 20 dX5_checkOf_16 (by decide) ?_
    have hr := z_some h
    subst hr
    exact v_lreturn o dX5_checkOf_20
theorem e_X5_checkOf {q : z_Q} {l : Launch} {G : z_G} {D : z_D} {a0 : Int64} {r : Int64} (h : f_X5_checkOf G D a0 = some r) : z_E q l yX5_checkOf cX5_checkOf 4 (some .long) 0 0 0 [.long a0] G D (some (.long r)) G D :=
  z_E.of (by decide) (Nat.le_of_ble_eq_true rfl) (fun X hX _ o => b_X5_checkOf o hX h)
def p_X7_has_3 (q : z_Q) (X : z_X) (Q : State → Prop) (G : z_G) (D : z_D) (a0 : Nat) (a1 : Int32) (a2 : Int64) : Int32 → Prop := (fun v => z_V q X 5 Q 0 0 G D 3 [(0, .ref (z_w q a0)), (1, .int a1), (2, .long a2), (4, .int v)] [])
def x_X7_has_3 (q : z_Q) (X : z_X) (Q : State → Prop) (G : z_G) (D : z_D) (a0 : Nat) (a1 : Int32) (a2 : Int64) : (Unit ⊕ Unit) → Prop := (Sum.elim (fun v => z_V q X 5 Q 0 0 G D 43 [] []) (fun v => z_V q X 5 Q 0 0 G D 51 [] []))
def k_X7_has_3 (q : z_Q) (X : z_X) (Q : State → Prop) (G : z_G) (D : z_D) (a0 : Nat) (a1 : Int32) (a2 : Int64) : Int32 ⊕ (Unit ⊕ Unit) → Prop := Sum.elim (p_X7_has_3 q X Q G D a0 a1 a2) (x_X7_has_3 q X Q G D a0 a1 a2)
def c_X7_has_3 (G : z_G) (D : z_D) (a0 : Nat) (a1 : Int32) (a2 : Int64) (a4 : Int32) : Option (Int32 ⊕ (Unit ⊕ Unit)) :=
  (if (z_I D 702 a0) ≤ a4 then (some (.inr (.inr ()))) else ((if (400 : Int32) ≤ a4 then (some (.inr (.inr ()))) else (z_gK G 1 (z_R G 700 a0) (z_gA G 1 (z_R G 700 a0) a4 ((if (z_U D (z_R G 700 a0) (a4).toNatClampNeg) = a1 then (z_gK G 2 (z_R G 701 a0) (z_gA G 2 (z_R G 701 a0) a4 ((if (lg_cmp (z_Y D (z_R G 701 a0) (a4).toNatClampNeg) a2) = (0 : Int32) then (some (.inr (.inl ()))) else ((some (.inl (a4 + (1 : Int32))))))))) else ((some (.inl (a4 + (1 : Int32))))))))))))
set_option maxRecDepth 100000 in
set_option maxHeartbeats 4000000 in
theorem tc_X7_has_3 {q : z_Q} {X : z_X} {G : z_G} {D : z_D} {Q : State → Prop} {a0 : Nat} {a1 : Int32} {a2 : Int64} {a4 : Int32} (o : z_O q X cX7_has 5 "FlashTrust$Signatures" "has" (some .boolean)) (hX : x_R X = z_rm 0 0 0) (hK0 : z_K G a0 = 107) {ρ : Int32 ⊕ (Unit ⊕ Unit)} (h : c_X7_has_3 G D a0 a1 a2 a4 = some ρ) (hk : k_X7_has_3 q X Q G D a0 a1 a2 ρ) : z_V q X 5 Q 0 0 G D 3 [(0, .ref (z_w q a0)), (1, .int a1), (2, .long a2), (4, .int a4)] [] := by
  unfold c_X7_has_3 at h
  refine v_iload o dX7_has_3 3 rfl ?_
  refine v_aload_n o dX7_has_5 rfl 0 rfl ?_
  refine gt_7_2 o hK0 ln_1_54 dX7_has_6 ?_
  refine v_icmp_ge o 51 dX7_has_9 (by decide) (fun c1 => ?_) (fun c1 => ?_)
  · replace h := z_ip c1 h
    obtain rfl := z_some h
    refine v_sub [] rfl ?_
    exact hk
  · replace h := z_in c1 h
    refine v_iload o dX7_has_12 3 rfl ?_
    refine v_sipush o (400 : Int32) dX7_has_14 (by decide) ?_
    refine v_icmp_ge o 51 dX7_has_17 (by decide) (fun c2 => ?_) (fun c2 => ?_)
    · replace h := z_ip c2 h
      obtain rfl := z_some h
      refine v_sub [] rfl ?_
      exact hk
    · replace h := z_in c2 h
      refine v_aload_n o dX7_has_20 rfl 0 rfl ?_
      obtain ⟨n3, h⟩ := z_gK_of h
      refine gt_7_0 o hK0 ln_1_52 (by rw [n3]; decide) dX7_has_21 ?_
      refine v_iload o dX7_has_24 3 rfl ?_
      obtain ⟨n4, n5, h⟩ := z_gA_of h
      refine v_iald o n4 n5 dX7_has_26 ?_
      refine v_iload_n o dX7_has_27 rfl 1 rfl ?_
      refine v_icmp_ne o 45 dX7_has_28 (by decide) (fun c6 => ?_) (fun c6 => ?_)
      · replace h := z_in c6 h
        refine v_iinc o (a4 + (1 : Int32)) [(4, .int (a4 + (1 : Int32))), (0, .ref (z_w q a0)), (1, .int a1), (2, .long a2)] dX7_has_45 3 rfl rfl (by decide) rfl ?_
        refine v_goto o 3 dX7_has_48 (by decide) ?_
        obtain rfl := z_some h
        refine v_sub [1, 2, 3, 0] rfl ?_
        exact hk
      · replace h := z_ip c6 h
        refine v_aload_n o dX7_has_31 rfl 0 rfl ?_
        obtain ⟨n7, h⟩ := z_gK_of h
        refine gt_7_1 o hK0 ln_1_53 (by rw [n7]; decide) dX7_has_32 ?_
        refine v_iload o dX7_has_35 3 rfl ?_
        obtain ⟨n8, n9, h⟩ := z_gA_of h
        refine v_lald o n8 n9 dX7_has_37 ?_
        refine v_lload_n o dX7_has_38 rfl 2 rfl ?_
        refine v_lcmp o dX7_has_39 ?_
        refine v_if_ne o 45 dX7_has_40 (by decide) (fun c10 => ?_) (fun c10 => ?_)
        · replace h := z_in c10 h
          refine v_iinc o (a4 + (1 : Int32)) [(4, .int (a4 + (1 : Int32))), (0, .ref (z_w q a0)), (1, .int a1), (2, .long a2)] dX7_has_45 3 rfl rfl (by decide) rfl ?_
          refine v_goto o 3 dX7_has_48 (by decide) ?_
          obtain rfl := z_some h
          refine v_sub [1, 2, 3, 0] rfl ?_
          exact hk
        · replace h := z_ip c10 h
          obtain rfl := z_some h
          refine v_sub [] rfl ?_
          exact hk
def f_X7_has (G : z_G) (D : z_D) (a0 : Nat) (a1 : Int32) (a2 : Int64) : Option (Int32) :=
  ((z_loop (fun v => c_X7_has_3 G D a0 a1 a2 v) 4000 (0 : Int32)).bind (Sum.elim (fun e11 => (some (1 : Int32))) (fun e11 => (some (0 : Int32)))))
set_option maxRecDepth 100000 in
set_option maxHeartbeats 4000000 in
theorem b_X7_has {q : z_Q} {X : z_X} {G : z_G} {D : z_D} {a0 : Nat} {a1 : Int32} {a2 : Int64} {r : Int32} (o : z_O q X cX7_has 5 "FlashTrust$Signatures" "has" (some .boolean)) (hX : x_R X = z_rm 0 0 0) (hK0 : z_K G a0 = 107) (h : f_X7_has G D a0 a1 a2 = some r) : z_V q X 5 (z_F q X (some (.int r)) G D 0 0) 0 0 G D 0 [(0, .ref (z_w q a0)), (1, .int a1), (2, .long a2)] [] := by
  unfold f_X7_has at h
  refine v_iconst o (0 : Int32) dX7_has_0 (by decide) ?_
  refine v_istore o [(4, .int (0 : Int32)), (0, .ref (z_w q a0)), (1, .int a1), (2, .long a2)] dX7_has_1 (by decide) rfl ?_
  refine v_sub [1, 2, 3, 0] rfl ?_
  obtain ⟨e11, he12, h⟩ := z_bind h
  refine z_loopV (P := p_X7_has_3 q X _ G D a0 a1 a2) (E := x_X7_has_3 q X _ G D a0 a1 a2) (fun v ρ hb hk => tc_X7_has_3 (D := D) (a0 := a0) (a1 := a1) (a2 := a2) (a4 := v) o hX hK0 hb hk) 4000 _ e11 he12 ?_
  rcases e11 with e11 | e11
  · replace h := z_el h
    show z_V q X 5 _ _ _ G D 43 [] []
    refine v_iconst o (1 : Int32) dX7_has_43 (by decide) ?_
    have hr := z_some h
    subst hr
    exact v_zreturn o (by decide) dX7_has_44
  · replace h := z_er h
    show z_V q X 5 _ _ _ G D 51 [] []
    refine v_iconst o (0 : Int32) dX7_has_51 (by decide) ?_
    have hr := z_some h
    subst hr
    exact v_zreturn o (by decide) dX7_has_52
theorem e_X7_has {q : z_Q} {l : Launch} {G : z_G} {D : z_D} {a0 : Nat} {a1 : Int32} {a2 : Int64} {r : Int32} (hK0 : z_K G a0 = 107) (h : f_X7_has G D a0 a1 a2 = some r) : z_E q l yX7_has cX7_has 5 (some .boolean) 0 0 0 [.ref (z_w q a0), .int a1, .long a2] G D (some (.int r)) G D :=
  z_E.of (by decide) (Nat.le_of_ble_eq_true rfl) (fun X hX _ o => b_X7_has o hX hK0 h)
def f_X7_add (G : z_G) (D : z_D) (a0 : Nat) (a1 : Int32) (a2 : Int64) : Option (Int32 × z_D) :=
  (f_X7_has G D a0 a1 a2).bind (fun r2 => ((if r2 = (0 : Int32) then ((if (z_I D 702 a0) < (400 : Int32) then (z_gK G 1 (z_R G 700 a0) (z_gA G 1 (z_R G 700 a0) (z_I D 702 a0) (z_gK G 2 (z_R G 701 a0) (z_gA G 2 (z_R G 701 a0) (z_I (z_sU D (z_R G 700 a0) ((z_I D 702 a0)).toNatClampNeg a1) 702 a0) ((some ((1 : Int32), (z_sI (z_sY (z_sU D (z_R G 700 a0) ((z_I D 702 a0)).toNatClampNeg a1) (z_R G 701 a0) ((z_I (z_sU D (z_R G 700 a0) ((z_I D 702 a0)).toNatClampNeg a1) 702 a0)).toNatClampNeg a2) 702 a0 ((z_I (z_sY (z_sU D (z_R G 700 a0) ((z_I D 702 a0)).toNatClampNeg a1) (z_R G 701 a0) ((z_I (z_sU D (z_R G 700 a0) ((z_I D 702 a0)).toNatClampNeg a1) 702 a0)).toNatClampNeg a2) 702 a0) + (1 : Int32)))))))))) else ((some ((0 : Int32), D))))) else ((some ((1 : Int32), D))))))
set_option maxRecDepth 100000 in
set_option maxHeartbeats 4000000 in
theorem b_X7_add {q : z_Q} {X : z_X} {G : z_G} {D : z_D} {a0 : Nat} {a1 : Int32} {a2 : Int64} {r : Int32} {D1 : z_D} (o : z_O q X cX7_add 4 "FlashTrust$Signatures" "add" (some .boolean)) (hX : x_R X = z_rm 1 0 0) (hK0 : z_K G a0 = 107) (h : f_X7_add G D a0 a1 a2 = some (r, D1)) : z_V q X 4 (z_F q X (some (.int r)) G D1 0 0) 0 0 G D 0 [(0, .ref (z_w q a0)), (1, .int a1), (2, .long a2)] [] := by
  unfold f_X7_add at h
  refine v_aload_n o dX7_add_0 rfl 0 rfl ?_
  refine v_iload_n o dX7_add_1 rfl 1 rfl ?_
  refine v_lload_n o dX7_add_2 rfl 2 rfl ?_
  obtain ⟨r2, he1, h⟩ := z_bind h
  refine v_callV o yw_X7_has ln_3_149 wi_X7_has ws_X7_has hX (by decide) 7 rfl hK0 (As := [.int a1, .long a2]) rfl rfl (Nat.le_of_ble_eq_true rfl) (e_X7_has hK0 he1) dX7_add_3 ?_
  refine v_if_eq o 11 dX7_add_6 (by decide) (fun c3 => ?_) (fun c3 => ?_)
  · replace h := z_ip c3 h
    refine v_aload_n o dX7_add_11 rfl 0 rfl ?_
    refine gt_7_2 o hK0 ln_1_54 dX7_add_12 ?_
    refine v_sipush o (400 : Int32) dX7_add_15 (by decide) ?_
    refine v_icmp_lt o 23 dX7_add_18 (by decide) (fun c4 => ?_) (fun c4 => ?_)
    · replace h := z_ip c4 h
      refine v_aload_n o dX7_add_23 rfl 0 rfl ?_
      obtain ⟨n5, h⟩ := z_gK_of h
      refine gt_7_0 o hK0 ln_1_52 (by rw [n5]; decide) dX7_add_24 ?_
      refine v_aload_n o dX7_add_27 rfl 0 rfl ?_
      refine gt_7_2 o hK0 ln_1_54 dX7_add_28 ?_
      refine v_iload_n o dX7_add_31 rfl 1 rfl ?_
      obtain ⟨n6, n7, h⟩ := z_gA_of h
      refine v_iast o n6 n7 dX7_add_32 ?_
      refine v_aload_n o dX7_add_33 rfl 0 rfl ?_
      obtain ⟨n8, h⟩ := z_gK_of h
      refine gt_7_1 o hK0 ln_1_53 (by rw [n8]; decide) dX7_add_34 ?_
      refine v_aload_n o dX7_add_37 rfl 0 rfl ?_
      refine gt_7_2 o hK0 ln_1_54 dX7_add_38 ?_
      refine v_lload_n o dX7_add_41 rfl 2 rfl ?_
      obtain ⟨n9, n10, h⟩ := z_gA_of h
      refine v_last o n9 n10 dX7_add_42 ?_
      refine v_aload_n o dX7_add_43 rfl 0 rfl ?_
      refine v_dup o dX7_add_44 rfl ?_
      refine gt_7_2 o hK0 ln_1_54 dX7_add_45 ?_
      refine v_iconst o (1 : Int32) dX7_add_48 (by decide) ?_
      refine v_iadd o dX7_add_49 ?_
      refine pt_7_2 o hK0 ln_1_54 dX7_add_50 ?_
      refine v_iconst o (1 : Int32) dX7_add_53 (by decide) ?_
      obtain ⟨hr, hs⟩ := Prod.mk.inj (z_some h)
      subst hr
      subst hs
      exact v_zreturn o (by decide) dX7_add_54
    · replace h := z_in c4 h
      refine v_iconst o (0 : Int32) dX7_add_21 (by decide) ?_
      obtain ⟨hr, hs⟩ := Prod.mk.inj (z_some h)
      subst hr
      subst hs
      exact v_zreturn o (by decide) dX7_add_22
  · replace h := z_in c3 h
    refine v_iconst o (1 : Int32) dX7_add_9 (by decide) ?_
    obtain ⟨hr, hs⟩ := Prod.mk.inj (z_some h)
    subst hr
    subst hs
    exact v_zreturn o (by decide) dX7_add_10
theorem e_X7_add {q : z_Q} {l : Launch} {G : z_G} {D : z_D} {a0 : Nat} {a1 : Int32} {a2 : Int64} {r : Int32} {D1 : z_D} (hK0 : z_K G a0 = 107) (h : f_X7_add G D a0 a1 a2 = some (r, D1)) : z_E q l yX7_add cX7_add 4 (some .boolean) 1 0 0 [.ref (z_w q a0), .int a1, .long a2] G D (some (.int r)) G D1 :=
  z_E.of (by decide) (Nat.le_of_ble_eq_true rfl) (fun X hX _ o => b_X7_add o hX hK0 h)
