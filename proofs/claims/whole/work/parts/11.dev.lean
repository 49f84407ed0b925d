def f_X1_isDown (G : z_G) (D : z_D) (a0 : Nat) : Option (Int32) :=
  z_gB (z_I D 105 a0) ((some (z_I D 105 a0)))
set_option maxRecDepth 100000 in
set_option maxHeartbeats 4000000 in
theorem b_X1_isDown {q : z_Q} {X : z_X} {G : z_G} {D : z_D} {a0 : Nat} {r : Int32} (o : z_O q X cX1_isDown 1 "FlashTrust$Flash" "isDown" (some .boolean)) (hX : x_R X = z_rm 0 0 0) (hK0 : z_K G a0 = 101) (h : f_X1_isDown G D a0 = some r) : z_V q X 1 (z_F q X (some (.int r)) G D 0 0) 0 0 G D 0 [(0, .ref (z_w q a0))] [] := by
  unfold f_X1_isDown at h
  refine v_aload_n o dX1_isDown_0 rfl 0 rfl ?_
  refine gt_1_5 o hK0 ln_1_155 dX1_isDown_1 ?_
  obtain ⟨n1, h⟩ := z_gB_of h
  have hr := z_some h
  subst hr
  exact v_zreturn o (z_nb n1) dX1_isDown_4
theorem e_X1_isDown {q : z_Q} {l : Launch} {G : z_G} {D : z_D} {a0 : Nat} {r : Int32} (hK0 : z_K G a0 = 101) (h : f_X1_isDown G D a0 = some r) : z_E q l yX1_isDown cX1_isDown 1 (some .boolean) 0 0 0 [.ref (z_w q a0)] G D (some (.int r)) G D :=
  z_E.of (by decide) (Nat.le_of_ble_eq_true rfl) (fun X hX _ o => b_X1_isDown o hX hK0 h)
def f_X1_switchOn (G : z_G) (D : z_D) (a0 : Nat) : Option (z_D) :=
  (some (z_sI D 105 a0 (0 : Int32)))
set_option maxRecDepth 100000 in
set_option maxHeartbeats 4000000 in
theorem b_X1_switchOn {q : z_Q} {X : z_X} {G : z_G} {D : z_D} {a0 : Nat}  {D1 : z_D} (o : z_O q X cX1_switchOn 1 "FlashTrust$Flash" "switchOn" none) (hX : x_R X = z_rm 0 0 0) (hK0 : z_K G a0 = 101) (h : f_X1_switchOn G D a0 = some D1) : z_V q X 1 (z_F q X none G D1 0 0) 0 0 G D 0 [(0, .ref (z_w q a0))] [] := by
  unfold f_X1_switchOn at h
  refine v_aload_n o dX1_switchOn_0 rfl 0 rfl ?_
  refine v_iconst o (0 : Int32) dX1_switchOn_1 (by decide) ?_
  refine pt_1_5 o hK0 ln_1_155 (by decide) dX1_switchOn_2 ?_
  have hr := z_some h
  subst hr
  exact v_return o dX1_switchOn_5
theorem e_X1_switchOn {q : z_Q} {l : Launch} {G : z_G} {D : z_D} {a0 : Nat}  {D1 : z_D} (hK0 : z_K G a0 = 101) (h : f_X1_switchOn G D a0 = some D1) : z_E q l yX1_switchOn cX1_switchOn 1 none 0 0 0 [.ref (z_w q a0)] G D none G D1 :=
  z_E.of (by decide) (Nat.le_of_ble_eq_true rfl) (fun X hX _ o => b_X1_switchOn o hX hK0 h)
def f_X1_tellCut (G : z_G) (D : z_D) (a0 : Nat) (a1 : Int32) (a2 : Int32) : Option (z_D) :=
  (some (z_sI (z_sI D 103 a0 a1) 104 a0 a2))
set_option maxRecDepth 100000 in
set_option maxHeartbeats 4000000 in
theorem b_X1_tellCut {q : z_Q} {X : z_X} {G : z_G} {D : z_D} {a0 : Nat} {a1 : Int32} {a2 : Int32}  {D1 : z_D} (o : z_O q X cX1_tellCut 3 "FlashTrust$Flash" "tellCut" none) (hX : x_R X = z_rm 0 0 0) (hK0 : z_K G a0 = 101) (h : f_X1_tellCut G D a0 a1 a2 = some D1) : z_V q X 3 (z_F q X none G D1 0 0) 0 0 G D 0 [(0, .ref (z_w q a0)), (1, .int a1), (2, .int a2)] [] := by
  unfold f_X1_tellCut at h
  refine v_aload_n o dX1_tellCut_0 rfl 0 rfl ?_
  refine v_iload_n o dX1_tellCut_1 rfl 1 rfl ?_
  refine pt_1_3 o hK0 ln_1_152 dX1_tellCut_2 ?_
  refine v_aload_n o dX1_tellCut_5 rfl 0 rfl ?_
  refine v_iload_n o dX1_tellCut_6 rfl 2 rfl ?_
  refine pt_1_4 o hK0 ln_1_154 dX1_tellCut_7 ?_
  have hr := z_some h
  subst hr
  exact v_return o dX1_tellCut_10
theorem e_X1_tellCut {q : z_Q} {l : Launch} {G : z_G} {D : z_D} {a0 : Nat} {a1 : Int32} {a2 : Int32}  {D1 : z_D} (hK0 : z_K G a0 = 101) (h : f_X1_tellCut G D a0 a1 a2 = some D1) : z_E q l yX1_tellCut cX1_tellCut 3 none 0 0 0 [.ref (z_w q a0), .int a1, .int a2] G D none G D1 :=
  z_E.of (by decide) (Nat.le_of_ble_eq_true rfl) (fun X hX _ o => b_X1_tellCut o hX hK0 h)
def f_X1_slotStart (G : z_G) (D : z_D) (a0 : Int32) : Option (Int32) :=
  (some (((10 : Int32) + (a0 * (8 : Int32))) * (128 : Int32)))
set_option maxRecDepth 100000 in
set_option maxHeartbeats 4000000 in
theorem b_X1_slotStart {q : z_Q} {X : z_X} {G : z_G} {D : z_D} {a0 : Int32} {r : Int32} (o : z_O q X cX1_slotStart 1 "FlashTrust$Flash" "slotStart" (some .int)) (hX : x_R X = z_rm 0 0 0)  (h : f_X1_slotStart G D a0 = some r) : z_V q X 1 (z_F q X (some (.int r)) G D 0 0) 0 0 G D 0 [(0, .int a0)] [] := by
  unfold f_X1_slotStart at h
  refine v_bipush o (10 : Int32) dX1_slotStart_0 (by decide) ?_
  refine v_iload_n o dX1_slotStart_2 rfl 0 rfl ?_
  refine v_bipush o (8 : Int32) dX1_slotStart_3 (by decide) ?_
  refine v_imul o dX1_slotStart_5 ?_
  refine v_iadd o dX1_slotStart_6 ?_
  refine v_sipush o (128 : Int32) dX1_slotStart_7 (by decide) ?_
  refine v_imul o dX1_slotStart_10 ?_
  have hr := z_some h
  subst hr
  exact v_ireturn o dX1_slotStart_11
theorem e_X1_slotStart {q : z_Q} {l : Launch} {G : z_G} {D : z_D} {a0 : Int32} {r : Int32} (h : f_X1_slotStart G D a0 = some r) : z_E q l yX1_slotStart cX1_slotStart 1 (some .int) 0 0 0 [.int a0] G D (some (.int r)) G D :=
  z_E.of (by decide) (Nat.le_of_ble_eq_true rfl) (fun X hX _ o => b_X1_slotStart o hX h)
def j_X1_powerHolds_32 (G : z_G) (D : z_D) (a0 : Nat) (s0 : Int32) (s1 : Nat) : Option (Int32 × z_D) :=
  z_gK G 101 s1 (z_gB s0 ((if (z_I (z_sI D 105 s1 s0) 105 a0) = (0 : Int32) then (((some ((1 : Int32), (z_sI D 105 s1 s0))))) else ((some ((0 : Int32), (z_sI D 105 s1 s0)))))))
set_option maxRecDepth 100000 in
set_option maxHeartbeats 4000000 in
theorem tj_X1_powerHolds_32 {q : z_Q} {X : z_X} {G : z_G} {D : z_D} {a0 : Nat} {s0 : Int32} {s1 : Nat} {r : Int32} {D1 : z_D} (o : z_O q X cX1_powerHolds 1 "FlashTrust$Flash" "powerHolds" (some .boolean)) (hX : x_R X = z_rm 0 0 0) (hK0 : z_K G a0 = 101) (h : j_X1_powerHolds_32 G D a0 s0 s1 = some (r, D1)) : z_V q X 1 (z_F q X (some (.int r)) G D1 0 0) 0 0 G D 32 [(0, .ref (z_w q a0))] [.int s0, .ref (z_w q s1)] := by
  unfold j_X1_powerHolds_32 at h
  obtain ⟨n3, h⟩ := z_gK_of h
  obtain ⟨n4, h⟩ := z_gB_of h
  refine pt_1_5 o n3 ln_1_155 n4 dX1_powerHolds_32 ?_
  refine v_aload_n o dX1_powerHolds_35 rfl 0 rfl ?_
  refine gt_1_5 o hK0 ln_1_155 dX1_powerHolds_36 ?_
  refine v_if_ne o 46 dX1_powerHolds_39 (by decide) (fun c5 => ?_) (fun c5 => ?_)
  · replace h := z_in c5 h
    refine v_iconst o (0 : Int32) dX1_powerHolds_46 (by decide) ?_
    obtain ⟨hr, hs⟩ := Prod.mk.inj (z_some h)
    subst hr
    subst hs
    exact v_zreturn o (by decide) dX1_powerHolds_47
  · replace h := z_ip c5 h
    refine v_iconst o (1 : Int32) dX1_powerHolds_42 (by decide) ?_
    refine v_goto o 47 dX1_powerHolds_43 (by decide) ?_
    obtain ⟨hr, hs⟩ := Prod.mk.inj (z_some h)
    subst hr
    subst hs
    exact v_zreturn o (by decide) dX1_powerHolds_47
def f_X1_powerHolds (G : z_G) (D : z_D) (a0 : Nat) : Option (Int32 × z_D) :=
  (if (0 : Int32) ≤ (z_I D 103 a0) then ((if (0 : Int32) ≤ (z_I (z_sI D 103 a0 ((z_I D 103 a0) - (1 : Int32))) 103 a0) then ((j_X1_powerHolds_32 G (z_sI D 103 a0 ((z_I D 103 a0) - (1 : Int32)))  a0 (0 : Int32) a0)) else ((j_X1_powerHolds_32 G (z_sI D 103 a0 ((z_I D 103 a0) - (1 : Int32)))  a0 (1 : Int32) a0)))) else ((some ((1 : Int32), D))))
set_option maxRecDepth 100000 in
set_option maxHeartbeats 4000000 in
theorem b_X1_powerHolds {q : z_Q} {X : z_X} {G : z_G} {D : z_D} {a0 : Nat} {r : Int32} {D1 : z_D} (o : z_O q X cX1_powerHolds 1 "FlashTrust$Flash" "powerHolds" (some .boolean)) (hX : x_R X = z_rm 0 0 0) (hK0 : z_K G a0 = 101) (h : f_X1_powerHolds G D a0 = some (r, D1)) : z_V q X 1 (z_F q X (some (.int r)) G D1 0 0) 0 0 G D 0 [(0, .ref (z_w q a0))] [] := by
  unfold f_X1_powerHolds at h
  refine v_aload_n o dX1_powerHolds_0 rfl 0 rfl ?_
  refine gt_1_3 o hK0 ln_1_152 dX1_powerHolds_1 ?_
  refine v_if_ge o 9 dX1_powerHolds_4 (by decide) (fun c1 => ?_) (fun c1 => ?_)
  · replace h := z_ip c1 h
    refine v_aload_n o dX1_powerHolds_9 rfl 0 rfl ?_
    refine v_dup o dX1_powerHolds_10 rfl ?_
    refine gt_1_3 o hK0 ln_1_152 dX1_powerHolds_11 ?_
    refine v_iconst o (1 : Int32) dX1_powerHolds_14 (by decide) ?_
    refine v_isub o dX1_powerHolds_15 ?_
    refine pt_1_3 o hK0 ln_1_152 dX1_powerHolds_16 ?_
    refine v_aload_n o dX1_powerHolds_19 rfl 0 rfl ?_
    refine v_aload_n o dX1_powerHolds_20 rfl 0 rfl ?_
    refine gt_1_3 o hK0 ln_1_152 dX1_powerHolds_21 ?_
    refine v_if_ge o 31 dX1_powerHolds_24 (by decide) (fun c2 => ?_) (fun c2 => ?_)
    · replace h := z_ip c2 h
      refine v_iconst o (0 : Int32) dX1_powerHolds_31 (by decide) ?_
      exact tj_X1_powerHolds_32 o hX hK0 h
    · replace h := z_in c2 h
      refine v_iconst o (1 : Int32) dX1_powerHolds_27 (by decide) ?_
      refine v_goto o 32 dX1_powerHolds_28 (by decide) ?_
      exact tj_X1_powerHolds_32 o hX hK0 h
  · replace h := z_in c1 h
    refine v_iconst o (1 : Int32) dX1_powerHolds_7 (by decide) ?_
    obtain ⟨hr, hs⟩ := Prod.mk.inj (z_some h)
    subst hr
    subst hs
    exact v_zreturn o (by decide) dX1_powerHolds_8
theorem e_X1_powerHolds {q : z_Q} {l : Launch} {G : z_G} {D : z_D} {a0 : Nat} {r : Int32} {D1 : z_D} (hK0 : z_K G a0 = 101) (h : f_X1_powerHolds G D a0 = some (r, D1)) : z_E q l yX1_powerHolds cX1_powerHolds 1 (some .boolean) 0 0 0 [.ref (z_w q a0)] G D (some (.int r)) G D1 :=
  z_E.of (by decide) (Nat.le_of_ble_eq_true rfl) (fun X hX _ o => b_X1_powerHolds o hX hK0 h)
def p_X1_burn_9 (q : z_Q) (X : z_X) (Q : State → Prop) (G : z_G) (a0 : Nat) (a2 : Nat) (a3 : Int32) (a4 : Int32) : (z_D × Int32) → Prop := (fun v => z_V q X 6 Q 0 0 G v.1 9 [(0, .ref (z_w q a0)), (2, .ref (z_w q a2)), (3, .int a3), (4, .int a4), (5, .int v.2)] [])
def x_X1_burn_9 (q : z_Q) (X : z_X) (Q : State → Prop) (G : z_G) (a0 : Nat) (a2 : Nat) (a3 : Int32) (a4 : Int32) : z_D → Prop := (fun v => z_V q X 6 Q 0 0 G v 55 [] [])
def k_X1_burn_9 (q : z_Q) (X : z_X) (Q : State → Prop) (G : z_G) (a0 : Nat) (a2 : Nat) (a3 : Int32) (a4 : Int32) : (z_D × Int32) ⊕ z_D → Prop := Sum.elim (p_X1_burn_9 q X Q G a0 a2 a3 a4) (x_X1_burn_9 q X Q G a0 a2 a3 a4)
def c_X1_burn_9 (G : z_G) (D : z_D) (a0 : Nat) (a2 : Nat) (a3 : Int32) (a4 : Int32) (a5 : Int32) : Option ((z_D × Int32) ⊕ z_D) :=
  (if (32 : Int32) ≤ a5 then (some (.inr D)) else (z_gK G 105 (z_R G 100 a0) ((f_X5_at G D (z_R G 100 a0) (a4 + a5)).bind (fun r4 => (z_gK G 105 a2 ((f_X5_at G D a2 (a3 + a5)).bind (fun r7 => ((f_X5_set G D (z_R G 100 a0) (a4 + a5) (r4 &&& r7)).bind (fun D9 => ((some (.inl (D9, (a5 + (1 : Int32)))))))))))))))
set_option maxRecDepth 100000 in
set_option maxHeartbeats 4000000 in
theorem tc_X1_burn_9 {q : z_Q} {X : z_X} {G : z_G} {D : z_D} {Q : State → Prop} {a0 : Nat} {a2 : Nat} {a3 : Int32} {a4 : Int32} {a5 : Int32} (o : z_O q X cX1_burn 6 "FlashTrust$Flash" "burn" none) (hX : x_R X = z_rm 1 0 0) (hK0 : z_K G a0 = 101) {ρ : (z_D × Int32) ⊕ z_D} (h : c_X1_burn_9 G D a0 a2 a3 a4 a5 = some ρ) (hk : k_X1_burn_9 q X Q G a0 a2 a3 a4 ρ) : z_V q X 6 Q 0 0 G D 9 [(0, .ref (z_w q a0)), (2, .ref (z_w q a2)), (3, .int a3), (4, .int a4), (5, .int a5)] [] := by
  unfold c_X1_burn_9 at h
  refine v_iload o dX1_burn_9 4 rfl ?_
  refine v_bipush o (32 : Int32) dX1_burn_11 (by decide) ?_
  refine v_icmp_ge o 55 dX1_burn_13 (by decide) (fun c1 => ?_) (fun c1 => ?_)
  · replace h := z_ip c1 h
    obtain rfl := z_some h
    refine v_sub [] rfl ?_
    exact hk
  · replace h := z_in c1 h
    refine v_aload_n o dX1_burn_16 rfl 0 rfl ?_
    obtain ⟨n2, h⟩ := z_gK_of h
    refine gt_1_0 o hK0 ln_1_144 (by rw [n2]; decide) dX1_burn_17 ?_
    refine v_iload o dX1_burn_20 3 rfl ?_
    refine v_iload o dX1_burn_22 4 rfl ?_
    refine v_iadd o dX1_burn_24 ?_
    refine v_aload_n o dX1_burn_25 rfl 0 rfl ?_
    refine gt_1_0 o hK0 ln_1_144 (by rw [n2]; decide) dX1_burn_26 ?_
    refine v_iload o dX1_burn_29 3 rfl ?_
    refine v_iload o dX1_burn_31 4 rfl ?_
    refine v_iadd o dX1_burn_33 ?_
    obtain ⟨r4, he3, h⟩ := z_bind h
    refine v_callV o yw_X5_at ln_2_174 wi_X5_at ws_X5_at hX (by decide) 5 rfl n2 (As := [.int (a4 + a5)]) rfl rfl (Nat.le_of_ble_eq_true rfl) (e_X5_at n2 he3) dX1_burn_34 ?_
    refine v_aload_n o dX1_burn_37 rfl 1 rfl ?_
    refine v_iload_n o dX1_burn_38 rfl 2 rfl ?_
    refine v_iload o dX1_burn_39 4 rfl ?_
    refine v_iadd o dX1_burn_41 ?_
    obtain ⟨n5, h⟩ := z_gK_of h
    obtain ⟨r7, he6, h⟩ := z_bind h
    refine v_callV o yw_X5_at ln_2_174 wi_X5_at ws_X5_at hX (by decide) 5 rfl n5 (As := [.int (a3 + a5)]) rfl rfl (Nat.le_of_ble_eq_true rfl) (e_X5_at n5 he6) dX1_burn_42 ?_
    refine v_iand o dX1_burn_45 ?_
    obtain ⟨D9, he8, h⟩ := z_bind h
    refine v_callV o yw_X5_set ln_1_140 wi_X5_set ws_X5_set hX (by decide) 5 rfl n2 (As := [.int (a4 + a5), .int (r4 &&& r7)]) rfl rfl (Nat.le_of_ble_eq_true rfl) (e_X5_set n2 he8) dX1_burn_46 ?_
    refine v_iinc o (a5 + (1 : Int32)) [(5, .int (a5 + (1 : Int32))), (0, .ref (z_w q a0)), (2, .ref (z_w q a2)), (3, .int a3), (4, .int a4)] dX1_burn_49 4 rfl rfl (by decide) rfl ?_
    refine v_goto o 9 dX1_burn_52 (by decide) ?_
    obtain rfl := z_some h
    refine v_sub [1, 2, 3, 4, 0] rfl ?_
    exact hk
def f_X1_burn (G : z_G) (D : z_D) (a0 : Nat) (a1 : Int32) (a2 : Nat) (a3 : Int32) : Option (z_D) :=
  ((z_loop (fun v => c_X1_burn_9 G v.1 a0 a2 a3 (a1 * (32 : Int32)) v.2) 4000 (D, (0 : Int32))).bind (fun e10 => (some e10)))
set_option maxRecDepth 100000 in
set_option maxHeartbeats 4000000 in
theorem b_X1_burn {q : z_Q} {X : z_X} {G : z_G} {D : z_D} {a0 : Nat} {a1 : Int32} {a2 : Nat} {a3 : Int32}  {D1 : z_D} (o : z_O q X cX1_burn 6 "FlashTrust$Flash" "burn" none) (hX : x_R X = z_rm 1 0 0) (hK0 : z_K G a0 = 101) (h : f_X1_burn G D a0 a1 a2 a3 = some D1) : z_V q X 6 (z_F q X none G D1 0 0) 0 0 G D 0 [(0, .ref (z_w q a0)), (1, .int a1), (2, .ref (z_w q a2)), (3, .int a3)] [] := by
  unfold f_X1_burn at h
  refine v_iload_n o dX1_burn_0 rfl 1 rfl ?_
  refine v_bipush o (32 : Int32) dX1_burn_1 (by decide) ?_
  refine v_imul o dX1_burn_3 ?_
  refine v_istore o [(4, .int (a1 * (32 : Int32))), (0, .ref (z_w q a0)), (1, .int a1), (2, .ref (z_w q a2)), (3, .int a3)] dX1_burn_4 (by decide) rfl ?_
  refine v_iconst o (0 : Int32) dX1_burn_6 (by decide) ?_
  refine v_istore o [(5, .int (0 : Int32)), (4, .int (a1 * (32 : Int32))), (0, .ref (z_w q a0)), (1, .int a1), (2, .ref (z_w q a2)), (3, .int a3)] dX1_burn_7 (by decide) rfl ?_
  refine v_sub [2, 4, 5, 1, 0] rfl ?_
  obtain ⟨e10, he11, h⟩ := z_bind h
  refine z_loopV (P := p_X1_burn_9 q X _ G a0 a2 a3 (a1 * (32 : Int32))) (E := x_X1_burn_9 q X _ G a0 a2 a3 (a1 * (32 : Int32))) (fun v ρ hb hk => tc_X1_burn_9 (D := v.1) (a0 := a0) (a2 := a2) (a3 := a3) (a4 := (a1 * (32 : Int32))) (a5 := v.2) o hX hK0 hb hk) 4000 _ e10 he11 ?_
  show z_V q X 6 _ _ _ G e10 55 [] []
  have hr := z_some h
  subst hr
  exact v_return o dX1_burn_55
theorem e_X1_burn {q : z_Q} {l : Launch} {G : z_G} {D : z_D} {a0 : Nat} {a1 : Int32} {a2 : Nat} {a3 : Int32}  {D1 : z_D} (hK0 : z_K G a0 = 101) (h : f_X1_burn G D a0 a1 a2 a3 = some D1) : z_E q l yX1_burn cX1_burn 6 none 1 0 0 [.ref (z_w q a0), .int a1, .ref (z_w q a2), .int a3] G D none G D1 :=
  z_E.of (by decide) (Nat.le_of_ble_eq_true rfl) (fun X hX _ o => b_X1_burn o hX hK0 h)
def f_X1_write (G : z_G) (D : z_D) (a0 : Nat) (a1 : Int32) (a2 : Nat) (a3 : Int32) : Option (z_D) :=
  (if (z_I D 105 a0) = (0 : Int32) then ((f_X1_powerHolds G (z_sI D 101 a0 ((z_I D 101 a0) + (1 : Int32))) a0).bind (fun p3 => ((if p3.1 = (0 : Int32) then ((some p3.2)) else ((f_X1_burn G p3.2 a0 a1 a2 a3).bind (fun D6 => ((some D6)))))))) else ((some D)))
set_option maxRecDepth 100000 in
set_option maxHeartbeats 4000000 in
theorem b_X1_write {q : z_Q} {X : z_X} {G : z_G} {D : z_D} {a0 : Nat} {a1 : Int32} {a2 : Nat} {a3 : Int32}  {D1 : z_D} (o : z_O q X cX1_write 4 "FlashTrust$Flash" "write" none) (hX : x_R X = z_rm 2 0 0) (hK0 : z_K G a0 = 101) (h : f_X1_write G D a0 a1 a2 a3 = some D1) : z_V q X 4 (z_F q X none G D1 0 0) 0 0 G D 0 [(0, .ref (z_w q a0)), (1, .int a1), (2, .ref (z_w q a2)), (3, .int a3)] [] := by
  unfold f_X1_write at h
  refine v_aload_n o dX1_write_0 rfl 0 rfl ?_
  refine gt_1_5 o hK0 ln_1_155 dX1_write_1 ?_
  refine v_if_eq o 8 dX1_write_4 (by decide) (fun c1 => ?_) (fun c1 => ?_)
  · replace h := z_ip c1 h
    refine v_aload_n o dX1_write_8 rfl 0 rfl ?_
    refine v_dup o dX1_write_9 rfl ?_
    refine gt_1_1 o hK0 ln_1_148 dX1_write_10 ?_
    refine v_iconst o (1 : Int32) dX1_write_13 (by decide) ?_
    refine v_iadd o dX1_write_14 ?_
    refine pt_1_1 o hK0 ln_1_148 dX1_write_15 ?_
    refine v_aload_n o dX1_write_18 rfl 0 rfl ?_
    obtain ⟨p3, he2, h⟩ := z_bind h
    refine v_callV o yw_X1_powerHolds ln_4_59 wi_X1_powerHolds ws_X1_powerHolds hX (by decide) 1 rfl hK0 (As := []) rfl rfl (Nat.le_of_ble_eq_true rfl) (e_X1_powerHolds hK0 he2) dX1_write_19 ?_
    refine v_if_eq o 32 dX1_write_22 (by decide) (fun c4 => ?_) (fun c4 => ?_)
    · replace h := z_ip c4 h
      have hr := z_some h
      subst hr
      exact v_return o dX1_write_32
    · replace h := z_in c4 h
      refine v_aload_n o dX1_write_25 rfl 0 rfl ?_
      refine v_iload_n o dX1_write_26 rfl 1 rfl ?_
      refine v_aload_n o dX1_write_27 rfl 2 rfl ?_
      refine v_iload_n o dX1_write_28 rfl 3 rfl ?_
      obtain ⟨D6, he5, h⟩ := z_bind h
      refine v_callV o yw_X1_burn ln_4_72 wi_X1_burn ws_X1_burn hX (by decide) 1 rfl hK0 (As := [.int a1, .ref (z_w q a2), .int a3]) rfl rfl (Nat.le_of_ble_eq_true rfl) (e_X1_burn hK0 he5) dX1_write_29 ?_
      have hr := z_some h
      subst hr
      exact v_return o dX1_write_32
  · replace h := z_in c1 h
    have hr := z_some h
    subst hr
    exact v_return o dX1_write_7
theorem e_X1_write {q : z_Q} {l : Launch} {G : z_G} {D : z_D} {a0 : Nat} {a1 : Int32} {a2 : Nat} {a3 : Int32}  {D1 : z_D} (hK0 : z_K G a0 = 101) (h : f_X1_write G D a0 a1 a2 a3 = some D1) : z_E q l yX1_write cX1_write 4 none 2 0 0 [.ref (z_w q a0), .int a1, .ref (z_w q a2), .int a3] G D none G D1 :=
  z_E.of (by decide) (Nat.le_of_ble_eq_true rfl) (fun X hX _ o => b_X1_write o hX hK0 h)
def p_X1_erase_43 (q : z_Q) (X : z_X) (Q : State → Prop) (G : z_G) (a0 : Nat) (a2 : Int32) (a3 : Int32) : (z_D × Int32) → Prop := (fun v => z_V q X 6 Q 0 0 G v.1 43 [(0, .ref (z_w q a0)), (2, .int a2), (3, .int a3), (4, .int v.2)] [])
def x_X1_erase_43 (q : z_Q) (X : z_X) (Q : State → Prop) (G : z_G) (a0 : Nat) (a2 : Int32) (a3 : Int32) : z_D → Prop := (fun v => z_V q X 6 Q 0 0 G v 101 [] [])
def k_X1_erase_43 (q : z_Q) (X : z_X) (Q : State → Prop) (G : z_G) (a0 : Nat) (a2 : Int32) (a3 : Int32) : (z_D × Int32) ⊕ z_D → Prop := Sum.elim (p_X1_erase_43 q X Q G a0 a2 a3) (x_X1_erase_43 q X Q G a0 a2 a3)
def c_X1_erase_43 (G : z_G) (D : z_D) (a0 : Nat) (a2 : Int32) (a3 : Int32) (a4 : Int32) : Option ((z_D × Int32) ⊕ z_D) :=
  (if (128 : Int32) ≤ a4 then (some (.inr D)) else (z_gK G 105 (z_R G 100 a0) ((f_X5_at G D (z_R G 100 a0) (a3 + a4)).bind (fun r8 => ((f_X5_set G D (z_R G 100 a0) (a3 + a4) (r8 ||| ((255 : Int32) ^^^ (((a2).toUInt32 >>> ((((8 : Int32) * (a4 - a4 / (4 : Int32) * (4 : Int32)))).toUInt32 &&& Int32.toUInt32 31)).toInt32 &&& (255 : Int32))))).bind (fun D10 => ((some (.inl (D10, (a4 + (1 : Int32))))))))))))
set_option maxRecDepth 100000 in
set_option maxHeartbeats 4000000 in
theorem tc_X1_erase_43 {q : z_Q} {X : z_X} {G : z_G} {D : z_D} {Q : State → Prop} {a0 : Nat} {a2 : Int32} {a3 : Int32} {a4 : Int32} (o : z_O q X cX1_erase 6 "FlashTrust$Flash" "erase" none) (hX : x_R X = z_rm 1 0 0) (hK0 : z_K G a0 = 101) {ρ : (z_D × Int32) ⊕ z_D} (h : c_X1_erase_43 G D a0 a2 a3 a4 = some ρ) (hk : k_X1_erase_43 q X Q G a0 a2 a3 ρ) : z_V q X 6 Q 0 0 G D 43 [(0, .ref (z_w q a0)), (2, .int a2), (3, .int a3), (4, .int a4)] [] := by
  unfold c_X1_erase_43 at h
  refine v_iload o dX1_erase_43 3 rfl ?_
  refine v_sipush o (128 : Int32) dX1_erase_45 (by decide) ?_
  refine v_icmp_ge o 101 dX1_erase_48 (by decide) (fun c5 => ?_) (fun c5 => ?_)
  · replace h := z_ip c5 h
    obtain rfl := z_some h
    refine v_sub [] rfl ?_
    exact hk
  · replace h := z_in c5 h
    refine v_iload_n o dX1_erase_51 rfl 1 rfl ?_
    refine v_bipush o (8 : Int32) dX1_erase_52 (by decide) ?_
    refine v_iload o dX1_erase_54 3 rfl ?_
    refine v_iconst o (4 : Int32) dX1_erase_56 (by decide) ?_
    refine v_irem o dX1_erase_57 (by decide) ?_
    refine v_imul o dX1_erase_58 ?_
    refine v_iushr o dX1_erase_59 ?_
    refine v_sipush o (255 : Int32) dX1_erase_60 (by decide) ?_
    refine v_iand o dX1_erase_63 ?_
    refine v_istore o [(5, .int (((a2).toUInt32 >>> ((((8 : Int32) * (a4 - a4 / (4 : Int32) * (4 : Int32)))).toUInt32 &&& Int32.toUInt32 31)).toInt32 &&& (255 : Int32))), (0, .ref (z_w q a0)), (2, .int a2), (3, .int a3), (4, .int a4)] dX1_erase_64 (by decide) rfl ?_
    refine v_aload_n o dX1_erase_66 rfl 1 rfl ?_
    obtain ⟨n6, h⟩ := z_gK_of h
    refine gt_1_0 o hK0 ln_1_144 (by rw [n6]; decide) dX1_erase_67 ?_
    refine v_iload_n o dX1_erase_70 rfl 3 rfl ?_
    refine v_iload o dX1_erase_71 4 rfl ?_
    refine v_iadd o dX1_erase_73 ?_
    refine v_aload_n o dX1_erase_74 rfl 1 rfl ?_
    refine gt_1_0 o hK0 ln_1_144 (by rw [n6]; decide) dX1_erase_75 ?_
    refine v_iload_n o dX1_erase_78 rfl 3 rfl ?_
    refine v_iload o dX1_erase_79 4 rfl ?_
    refine v_iadd o dX1_erase_81 ?_
    obtain ⟨r8, he7, h⟩ := z_bind h
    refine v_callV o yw_X5_at ln_2_174 wi_X5_at ws_X5_at hX (by decide) 5 rfl n6 (As := [.int (a3 + a4)]) rfl rfl (Nat.le_of_ble_eq_true rfl) (e_X5_at n6 he7) dX1_erase_82 ?_
    refine v_sipush o (255 : Int32) dX1_erase_85 (by decide) ?_
    refine v_iload o dX1_erase_88 0 rfl ?_
    refine v_ixor o dX1_erase_90 ?_
    refine v_ior o dX1_erase_91 ?_
    obtain ⟨D10, he9, h⟩ := z_bind h
    refine v_callV o yw_X5_set ln_1_140 wi_X5_set ws_X5_set hX (by decide) 5 rfl n6 (As := [.int (a3 + a4), .int (r8 ||| ((255 : Int32) ^^^ (((a2).toUInt32 >>> ((((8 : Int32) * (a4 - a4 / (4 : Int32) * (4 : Int32)))).toUInt32 &&& Int32.toUInt32 31)).toInt32 &&& (255 : Int32))))]) rfl rfl (Nat.le_of_ble_eq_true rfl) (e_X5_set n6 he9) dX1_erase_92 ?_
    refine v_iinc o (a4 + (1 : Int32)) [(4, .int (a4 + (1 : Int32))), (5, .int (((a2).toUInt32 >>> ((((8 : Int32) * (a4 - a4 / (4 : Int32) * (4 : Int32)))).toUInt32 &&& Int32.toUInt32 31)).toInt32 &&& (255 : Int32))), (0, .ref (z_w q a0)), (2, .int a2), (3, .int a3)] dX1_erase_95 4 rfl rfl (by decide) rfl ?_
    refine v_goto o 43 dX1_erase_98 (by decide) ?_
    obtain rfl := z_some h
    refine v_sub [2, 3, 4, 0] rfl ?_
    exact hk
def j_X1_erase_33 (G : z_G) (D : z_D) (a0 : Nat) (a1 : Int32) (s0 : Int32) : Option (z_D) :=
  ((z_loop (fun v => c_X1_erase_43 G v.1 a0 s0 (a1 * (128 : Int32)) v.2) 4000 (D, (0 : Int32))).bind (fun e11 => (some e11)))
set_option maxRecDepth 100000 in
set_option maxHeartbeats 4000000 in
theorem tj_X1_erase_33 {q : z_Q} {X : z_X} {G : z_G} {D : z_D} {a0 : Nat} {a1 : Int32} {s0 : Int32}  {D1 : z_D} (o : z_O q X cX1_erase 6 "FlashTrust$Flash" "erase" none) (hX : x_R X = z_rm 1 0 0) (hK0 : z_K G a0 = 101) (h : j_X1_erase_33 G D a0 a1 s0 = some D1) : z_V q X 6 (z_F q X none G D1 0 0) 0 0 G D 33 [(0, .ref (z_w q a0)), (1, .int a1)] [.int s0] := by
  unfold j_X1_erase_33 at h
  refine v_istore_n o [(2, .int s0), (0, .ref (z_w q a0)), (1, .int a1)] dX1_erase_33 rfl (by decide) rfl ?_
  refine v_iload_n o dX1_erase_34 rfl 2 rfl ?_
  refine v_sipush o (128 : Int32) dX1_erase_35 (by decide) ?_
  refine v_imul o dX1_erase_38 ?_
  refine v_istore_n o [(3, .int (a1 * (128 : Int32))), (2, .int s0), (0, .ref (z_w q a0)), (1, .int a1)] dX1_erase_39 rfl (by decide) rfl ?_
  refine v_iconst o (0 : Int32) dX1_erase_40 (by decide) ?_
  refine v_istore o [(4, .int (0 : Int32)), (3, .int (a1 * (128 : Int32))), (2, .int s0), (0, .ref (z_w q a0)), (1, .int a1)] dX1_erase_41 (by decide) rfl ?_
  refine v_sub [3, 2, 1, 0] rfl ?_
  obtain ⟨e11, he12, h⟩ := z_bind h
  refine z_loopV (P := p_X1_erase_43 q X _ G a0 s0 (a1 * (128 : Int32))) (E := x_X1_erase_43 q X _ G a0 s0 (a1 * (128 : Int32))) (fun v ρ hb hk => tc_X1_erase_43 (D := v.1) (a0 := a0) (a2 := s0) (a3 := (a1 * (128 : Int32))) (a4 := v.2) o hX hK0 hb hk) 4000 _ e11 he12 ?_
  show z_V q X 6 _ _ _ G e11 101 [] []
  have hr := z_some h
  subst hr
  exact v_return o dX1_erase_101
def f_X1_erase (G : z_G) (D : z_D) (a0 : Nat) (a1 : Int32) : Option (z_D) :=
  (if (z_I D 105 a0) = (0 : Int32) then ((f_X1_powerHolds G (z_sI D 102 a0 ((z_I D 102 a0) + (1 : Int32))) a0).bind (fun p3 => ((if p3.1 = (0 : Int32) then ((j_X1_erase_33 G p3.2  a0 a1 (z_I p3.2 104 a0))) else ((j_X1_erase_33 G p3.2  a0 a1 (0 : Int32))))))) else ((some D)))
set_option maxRecDepth 100000 in
set_option maxHeartbeats 4000000 in
theorem b_X1_erase {q : z_Q} {X : z_X} {G : z_G} {D : z_D} {a0 : Nat} {a1 : Int32}  {D1 : z_D} (o : z_O q X cX1_erase 6 "FlashTrust$Flash" "erase" none) (hX : x_R X = z_rm 1 0 0) (hK0 : z_K G a0 = 101) (h : f_X1_erase G D a0 a1 = some D1) : z_V q X 6 (z_F q X none G D1 0 0) 0 0 G D 0 [(0, .ref (z_w q a0)), (1, .int a1)] [] := by
  unfold f_X1_erase at h
  refine v_aload_n o dX1_erase_0 rfl 0 rfl ?_
  refine gt_1_5 o hK0 ln_1_155 dX1_erase_1 ?_
  refine v_if_eq o 8 dX1_erase_4 (by decide) (fun c1 => ?_) (fun c1 => ?_)
  · replace h := z_ip c1 h
    refine v_aload_n o dX1_erase_8 rfl 0 rfl ?_
    refine v_dup o dX1_erase_9 rfl ?_
    refine gt_1_2 o hK0 ln_1_150 dX1_erase_10 ?_
    refine v_iconst o (1 : Int32) dX1_erase_13 (by decide) ?_
    refine v_iadd o dX1_erase_14 ?_
    refine pt_1_2 o hK0 ln_1_150 dX1_erase_15 ?_
    refine v_aload_n o dX1_erase_18 rfl 0 rfl ?_
    obtain ⟨p3, he2, h⟩ := z_bind h
    refine v_callV o yw_X1_powerHolds ln_4_59 wi_X1_powerHolds ws_X1_powerHolds hX (by decide) 1 rfl hK0 (As := []) rfl rfl (Nat.le_of_ble_eq_true rfl) (e_X1_powerHolds hK0 he2) dX1_erase_19 ?_
    refine v_if_eq o 29 dX1_erase_22 (by decide) (fun c4 => ?_) (fun c4 => ?_)
    · replace h := z_ip c4 h
      refine v_aload_n o dX1_erase_29 rfl 0 rfl ?_
      refine gt_1_4 o hK0 ln_1_154 dX1_erase_30 ?_
      exact tj_X1_erase_33 o hX hK0 h
    · replace h := z_in c4 h
      refine v_iconst o (0 : Int32) dX1_erase_25 (by decide) ?_
      refine v_goto o 33 dX1_erase_26 (by decide) ?_
      exact tj_X1_erase_33 o hX hK0 h
  · replace h := z_in c1 h
    have hr := z_some h
    subst hr
    exact v_return o dX1_erase_7
theorem e_X1_erase {q : z_Q} {l : Launch} {G : z_G} {D : z_D} {a0 : Nat} {a1 : Int32}  {D1 : z_D} (hK0 : z_K G a0 = 101) (h : f_X1_erase G D a0 a1 = some D1) : z_E q l yX1_erase cX1_erase 6 none 1 0 0 [.ref (z_w q a0), .int a1] G D none G D1 :=
  z_E.of (by decide) (Nat.le_of_ble_eq_true rfl) (fun X hX _ o => b_X1_erase o hX hK0 h)
def p_X1_writeAll_2 (q : z_Q) (X : z_X) (Q : State → Prop) (G : z_G) (a0 : Nat) (a1 : Int32) (a2 : Nat) : (z_D × Int32) → Prop := (fun v => z_V q X 4 Q 0 0 G v.1 2 [(0, .ref (z_w q a0)), (1, .int a1), (2, .ref (z_w q a2)), (3, .int v.2)] [])
def x_X1_writeAll_2 (q : z_Q) (X : z_X) (Q : State → Prop) (G : z_G) (a0 : Nat) (a1 : Int32) (a2 : Nat) : z_D → Prop := (fun v => z_V q X 4 Q 0 0 G v 28 [] [])
def k_X1_writeAll_2 (q : z_Q) (X : z_X) (Q : State → Prop) (G : z_G) (a0 : Nat) (a1 : Int32) (a2 : Nat) : (z_D × Int32) ⊕ z_D → Prop := Sum.elim (p_X1_writeAll_2 q X Q G a0 a1 a2) (x_X1_writeAll_2 q X Q G a0 a1 a2)
def c_X1_writeAll_2 (G : z_G) (D : z_D) (a0 : Nat) (a1 : Int32) (a2 : Nat) (a3 : Int32) : Option ((z_D × Int32) ⊕ z_D) :=
  z_gK G 105 a2 ((f_X5_size G D a2).bind (fun r3 => ((if r3 ≤ a3 then (some (.inr D)) else ((f_X1_write G D a0 (a1 + (a3 / (32 : Int32))) a2 a3).bind (fun D6 => ((some (.inl (D6, (a3 + (32 : Int32))))))))))))
set_option maxRecDepth 100000 in
set_option maxHeartbeats 4000000 in
theorem tc_X1_writeAll_2 {q : z_Q} {X : z_X} {G : z_G} {D : z_D} {Q : State → Prop} {a0 : Nat} {a1 : Int32} {a2 : Nat} {a3 : Int32} (o : z_O q X cX1_writeAll 4 "FlashTrust$Flash" "writeAll" none) (hX : x_R X = z_rm 3 0 0) (hK0 : z_K G a0 = 101) {ρ : (z_D × Int32) ⊕ z_D} (h : c_X1_writeAll_2 G D a0 a1 a2 a3 = some ρ) (hk : k_X1_writeAll_2 q X Q G a0 a1 a2 ρ) : z_V q X 4 Q 0 0 G D 2 [(0, .ref (z_w q a0)), (1, .int a1), (2, .ref (z_w q a2)), (3, .int a3)] [] := by
  unfold c_X1_writeAll_2 at h
  refine v_iload_n o dX1_writeAll_2 rfl 3 rfl ?_
  refine v_aload_n o dX1_writeAll_3 rfl 2 rfl ?_
  obtain ⟨n1, h⟩ := z_gK_of h
  obtain ⟨r3, he2, h⟩ := z_bind h
  refine v_callV o yw_X5_size ln_4_67 wi_X5_size ws_X5_size hX (by decide) 5 rfl n1 (As := []) rfl rfl (Nat.le_of_ble_eq_true rfl) (e_X5_size n1 he2) dX1_writeAll_4 ?_
  refine v_icmp_ge o 28 dX1_writeAll_7 (by decide) (fun c4 => ?_) (fun c4 => ?_)
  · replace h := z_ip c4 h
    obtain rfl := z_some h
    refine v_sub [] rfl ?_
    exact hk
  · replace h := z_in c4 h
    refine v_aload_n o dX1_writeAll_10 rfl 0 rfl ?_
    refine v_iload_n o dX1_writeAll_11 rfl 1 rfl ?_
    refine v_iload_n o dX1_writeAll_12 rfl 3 rfl ?_
    refine v_bipush o (32 : Int32) dX1_writeAll_13 (by decide) ?_
    refine v_idiv o dX1_writeAll_15 (by decide) ?_
    refine v_iadd o dX1_writeAll_16 ?_
    refine v_aload_n o dX1_writeAll_17 rfl 2 rfl ?_
    refine v_iload_n o dX1_writeAll_18 rfl 3 rfl ?_
    obtain ⟨D6, he5, h⟩ := z_bind h
    refine v_callV o yw_X1_write ln_4_68 wi_X1_write ws_X1_write hX (by decide) 1 rfl hK0 (As := [.int (a1 + (a3 / (32 : Int32))), .ref (z_w q a2), .int a3]) rfl rfl (Nat.le_of_ble_eq_true rfl) (e_X1_write hK0 he5) dX1_writeAll_19 ?_
    refine v_iinc o (a3 + (32 : Int32)) [(3, .int (a3 + (32 : Int32))), (0, .ref (z_w q a0)), (1, .int a1), (2, .ref (z_w q a2))] dX1_writeAll_22 3 rfl rfl (by decide) rfl ?_
    refine v_goto o 2 dX1_writeAll_25 (by decide) ?_
    obtain rfl := z_some h
    refine v_sub [1, 2, 3, 0] rfl ?_
    exact hk
def f_X1_writeAll (G : z_G) (D : z_D) (a0 : Nat) (a1 : Int32) (a2 : Nat) : Option (z_D) :=
  ((z_loop (fun v => c_X1_writeAll_2 G v.1 a0 a1 a2 v.2) 4000 (D, (0 : Int32))).bind (fun e7 => (some e7)))
set_option maxRecDepth 100000 in
set_option maxHeartbeats 4000000 in
theorem b_X1_writeAll {q : z_Q} {X : z_X} {G : z_G} {D : z_D} {a0 : Nat} {a1 : Int32} {a2 : Nat}  {D1 : z_D} (o : z_O q X cX1_writeAll 4 "FlashTrust$Flash" "writeAll" none) (hX : x_R X = z_rm 3 0 0) (hK0 : z_K G a0 = 101) (h : f_X1_writeAll G D a0 a1 a2 = some D1) : z_V q X 4 (z_F q X none G D1 0 0) 0 0 G D 0 [(0, .ref (z_w q a0)), (1, .int a1), (2, .ref (z_w q a2))] [] := by
  unfold f_X1_writeAll at h
  refine v_iconst o (0 : Int32) dX1_writeAll_0 (by decide) ?_
  refine v_istore_n o [(3, .int (0 : Int32)), (0, .ref (z_w q a0)), (1, .int a1), (2, .ref (z_w q a2))] dX1_writeAll_1 rfl (by decide) rfl ?_
  refine v_sub [1, 2, 3, 0] rfl ?_
  obtain ⟨e7, he8, h⟩ := z_bind h
  refine z_loopV (P := p_X1_writeAll_2 q X _ G a0 a1 a2) (E := x_X1_writeAll_2 q X _ G a0 a1 a2) (fun v ρ hb hk => tc_X1_writeAll_2 (D := v.1) (a0 := a0) (a1 := a1) (a2 := a2) (a3 := v.2) o hX hK0 hb hk) 4000 _ e7 he8 ?_
  show z_V q X 4 _ _ _ G e7 28 [] []
  have hr := z_some h
  subst hr
  exact v_return o dX1_writeAll_28
theorem e_X1_writeAll {q : z_Q} {l : Launch} {G : z_G} {D : z_D} {a0 : Nat} {a1 : Int32} {a2 : Nat}  {D1 : z_D} (hK0 : z_K G a0 = 101) (h : f_X1_writeAll G D a0 a1 a2 = some D1) : z_E q l yX1_writeAll cX1_writeAll 4 none 3 0 0 [.ref (z_w q a0), .int a1, .ref (z_w q a2)] G D none G D1 :=
  z_E.of (by decide) (Nat.le_of_ble_eq_true rfl) (fun X hX _ o => b_X1_writeAll o hX hK0 h)
def p_X1_eraseSlot_2 (q : z_Q) (X : z_X) (Q : State → Prop) (G : z_G) (a0 : Nat) (a1 : Int32) : (z_D × Int32) → Prop := (fun v => z_V q X 3 Q 0 0 G v.1 2 [(0, .ref (z_w q a0)), (1, .int a1), (2, .int v.2)] [])
def x_X1_eraseSlot_2 (q : z_Q) (X : z_X) (Q : State → Prop) (G : z_G) (a0 : Nat) (a1 : Int32) : z_D → Prop := (fun v => z_V q X 3 Q 0 0 G v 27 [] [])
def k_X1_eraseSlot_2 (q : z_Q) (X : z_X) (Q : State → Prop) (G : z_G) (a0 : Nat) (a1 : Int32) : (z_D × Int32) ⊕ z_D → Prop := Sum.elim (p_X1_eraseSlot_2 q X Q G a0 a1) (x_X1_eraseSlot_2 q X Q G a0 a1)
def c_X1_eraseSlot_2 (G : z_G) (D : z_D) (a0 : Nat) (a1 : Int32) (a2 : Int32) : Option ((z_D × Int32) ⊕ z_D) :=
  (if (8 : Int32) ≤ a2 then (some (.inr D)) else ((f_X1_erase G D a0 (((10 : Int32) + (a1 * (8 : Int32))) + a2)).bind (fun D3 => ((some (.inl (D3, (a2 + (1 : Int32)))))))))
set_option maxRecDepth 100000 in
set_option maxHeartbeats 4000000 in
theorem tc_X1_eraseSlot_2 {q : z_Q} {X : z_X} {G : z_G} {D : z_D} {Q : State → Prop} {a0 : Nat} {a1 : Int32} {a2 : Int32} (o : z_O q X cX1_eraseSlot 3 "FlashTrust$Flash" "eraseSlot" none) (hX : x_R X = z_rm 2 0 0) (hK0 : z_K G a0 = 101) {ρ : (z_D × Int32) ⊕ z_D} (h : c_X1_eraseSlot_2 G D a0 a1 a2 = some ρ) (hk : k_X1_eraseSlot_2 q X Q G a0 a1 ρ) : z_V q X 3 Q 0 0 G D 2 [(0, .ref (z_w q a0)), (1, .int a1), (2, .int a2)] [] := by
  unfold c_X1_eraseSlot_2 at h
  refine v_iload_n o dX1_eraseSlot_2 rfl 2 rfl ?_
  refine v_bipush o (8 : Int32) dX1_eraseSlot_3 (by decide) ?_
  refine v_icmp_ge o 27 dX1_eraseSlot_5 (by decide) (fun c1 => ?_) (fun c1 => ?_)
  · replace h := z_ip c1 h
    obtain rfl := z_some h
    refine v_sub [] rfl ?_
    exact hk
  · replace h := z_in c1 h
    refine v_aload_n o dX1_eraseSlot_8 rfl 0 rfl ?_
    refine v_bipush o (10 : Int32) dX1_eraseSlot_9 (by decide) ?_
    refine v_iload_n o dX1_eraseSlot_11 rfl 1 rfl ?_
    refine v_bipush o (8 : Int32) dX1_eraseSlot_12 (by decide) ?_
    refine v_imul o dX1_eraseSlot_14 ?_
    refine v_iadd o dX1_eraseSlot_15 ?_
    refine v_iload_n o dX1_eraseSlot_16 rfl 2 rfl ?_
    refine v_iadd o dX1_eraseSlot_17 ?_
    obtain ⟨D3, he2, h⟩ := z_bind h
    refine v_callV o yw_X1_erase ln_4_156 wi_X1_erase ws_X1_erase hX (by decide) 1 rfl hK0 (As := [.int (((10 : Int32) + (a1 * (8 : Int32))) + a2)]) rfl rfl (Nat.le_of_ble_eq_true rfl) (e_X1_erase hK0 he2) dX1_eraseSlot_18 ?_
    refine v_iinc o (a2 + (1 : Int32)) [(2, .int (a2 + (1 : Int32))), (0, .ref (z_w q a0)), (1, .int a1)] dX1_eraseSlot_21 2 rfl rfl (by decide) rfl ?_
    refine v_goto o 2 dX1_eraseSlot_24 (by decide) ?_
    obtain rfl := z_some h
    refine v_sub [1, 2, 0] rfl ?_
    exact hk
def f_X1_eraseSlot (G : z_G) (D : z_D) (a0 : Nat) (a1 : Int32) : Option (z_D) :=
  ((z_loop (fun v => c_X1_eraseSlot_2 G v.1 a0 a1 v.2) 4000 (D, (0 : Int32))).bind (fun e4 => (some e4)))
set_option maxRecDepth 100000 in
set_option maxHeartbeats 4000000 in
theorem b_X1_eraseSlot {q : z_Q} {X : z_X} {G : z_G} {D : z_D} {a0 : Nat} {a1 : Int32}  {D1 : z_D} (o : z_O q X cX1_eraseSlot 3 "FlashTrust$Flash" "eraseSlot" none) (hX : x_R X = z_rm 2 0 0) (hK0 : z_K G a0 = 101) (h : f_X1_eraseSlot G D a0 a1 = some D1) : z_V q X 3 (z_F q X none G D1 0 0) 0 0 G D 0 [(0, .ref (z_w q a0)), (1, .int a1)] [] := by
  unfold f_X1_eraseSlot at h
  refine v_iconst o (0 : Int32) dX1_eraseSlot_0 (by decide) ?_
  refine v_istore_n o [(2, .int (0 : Int32)), (0, .ref (z_w q a0)), (1, .int a1)] dX1_eraseSlot_1 rfl (by decide) rfl ?_
  refine v_sub [1, 2, 0] rfl ?_
  obtain ⟨e4, he5, h⟩ := z_bind h
  refine z_loopV (P := p_X1_eraseSlot_2 q X _ G a0 a1) (E := x_X1_eraseSlot_2 q X _ G a0 a1) (fun v ρ hb hk => tc_X1_eraseSlot_2 (D := v.1) (a0 := a0) (a1 := a1) (a2 := v.2) o hX hK0 hb hk) 4000 _ e4 he5 ?_
  show z_V q X 3 _ _ _ G e4 27 [] []
  have hr := z_some h
  subst hr
  exact v_return o dX1_eraseSlot_27
theorem e_X1_eraseSlot {q : z_Q} {l : Launch} {G : z_G} {D : z_D} {a0 : Nat} {a1 : Int32}  {D1 : z_D} (hK0 : z_K G a0 = 101) (h : f_X1_eraseSlot G D a0 a1 = some D1) : z_E q l yX1_eraseSlot cX1_eraseSlot 3 none 2 0 0 [.ref (z_w q a0), .int a1] G D none G D1 :=
  z_E.of (by decide) (Nat.le_of_ble_eq_true rfl) (fun X hX _ o => b_X1_eraseSlot o hX hK0 h)
def p_X1_isBlank_2 (q : z_Q) (X : z_X) (Q : State → Prop) (G : z_G) (D : z_D) (a0 : Nat) (a1 : Int32) : Int32 → Prop := (fun v => z_V q X 3 Q 0 0 G D 2 [(0, .ref (z_w q a0)), (1, .int a1), (2, .int v)] [])
def x_X1_isBlank_2 (q : z_Q) (X : z_X) (Q : State → Prop) (G : z_G) (D : z_D) (a0 : Nat) (a1 : Int32) : (Unit ⊕ Unit) → Prop := (Sum.elim (fun v => z_V q X 3 Q 0 0 G D 27 [] []) (fun v => z_V q X 3 Q 0 0 G D 35 [] []))
def k_X1_isBlank_2 (q : z_Q) (X : z_X) (Q : State → Prop) (G : z_G) (D : z_D) (a0 : Nat) (a1 : Int32) : Int32 ⊕ (Unit ⊕ Unit) → Prop := Sum.elim (p_X1_isBlank_2 q X Q G D a0 a1) (x_X1_isBlank_2 q X Q G D a0 a1)
def c_X1_isBlank_2 (G : z_G) (D : z_D) (a0 : Nat) (a1 : Int32) (a2 : Int32) : Option (Int32 ⊕ (Unit ⊕ Unit)) :=
  (if (32 : Int32) ≤ a2 then (some (.inr (.inr ()))) else (z_gK G 105 (z_R G 100 a0) ((f_X5_at G D (z_R G 100 a0) ((a1 * (32 : Int32)) + a2)).bind (fun r4 => ((if r4 = (255 : Int32) then ((some (.inl (a2 + (1 : Int32))))) else (some (.inr (.inl ())))))))))
set_option maxRecDepth 100000 in
set_option maxHeartbeats 4000000 in
theorem tc_X1_isBlank_2 {q : z_Q} {X : z_X} {G : z_G} {D : z_D} {Q : State → Prop} {a0 : Nat} {a1 : Int32} {a2 : Int32} (o : z_O q X cX1_isBlank 3 "FlashTrust$Flash" "isBlank" (some .boolean)) (hX : x_R X = z_rm 1 0 0) (hK0 : z_K G a0 = 101) {ρ : Int32 ⊕ (Unit ⊕ Unit)} (h : c_X1_isBlank_2 G D a0 a1 a2 = some ρ) (hk : k_X1_isBlank_2 q X Q G D a0 a1 ρ) : z_V q X 3 Q 0 0 G D 2 [(0, .ref (z_w q a0)), (1, .int a1), (2, .int a2)] [] := by
  unfold c_X1_isBlank_2 at h
  refine v_iload_n o dX1_isBlank_2 rfl 2 rfl ?_
  refine v_bipush o (32 : Int32) dX1_isBlank_3 (by decide) ?_
  refine v_icmp_ge o 35 dX1_isBlank_5 (by decide) (fun c1 => ?_) (fun c1 => ?_)
  · replace h := z_ip c1 h
    obtain rfl := z_some h
    refine v_sub [] rfl ?_
    exact hk
  · replace h := z_in c1 h
    refine v_aload_n o dX1_isBlank_8 rfl 0 rfl ?_
    obtain ⟨n2, h⟩ := z_gK_of h
    refine gt_1_0 o hK0 ln_1_144 (by rw [n2]; decide) dX1_isBlank_9 ?_
    refine v_iload_n o dX1_isBlank_12 rfl 1 rfl ?_
    refine v_bipush o (32 : Int32) dX1_isBlank_13 (by decide) ?_
    refine v_imul o dX1_isBlank_15 ?_
    refine v_iload_n o dX1_isBlank_16 rfl 2 rfl ?_
    refine v_iadd o dX1_isBlank_17 ?_
    obtain ⟨r4, he3, h⟩ := z_bind h
    refine v_callV o yw_X5_at ln_2_174 wi_X5_at ws_X5_at hX (by decide) 5 rfl n2 (As := [.int ((a1 * (32 : Int32)) + a2)]) rfl rfl (Nat.le_of_ble_eq_true rfl) (e_X5_at n2 he3) dX1_isBlank_18 ?_
    refine v_sipush o (255 : Int32) dX1_isBlank_21 (by decide) ?_
    refine v_icmp_eq o 29 dX1_isBlank_24 (by decide) (fun c5 => ?_) (fun c5 => ?_)
    · replace h := z_ip c5 h
      refine v_iinc o (a2 + (1 : Int32)) [(2, .int (a2 + (1 : Int32))), (0, .ref (z_w q a0)), (1, .int a1)] dX1_isBlank_29 2 rfl rfl (by decide) rfl ?_
      refine v_goto o 2 dX1_isBlank_32 (by decide) ?_
      obtain rfl := z_some h
      refine v_sub [1, 2, 0] rfl ?_
      exact hk
    · replace h := z_in c5 h
      obtain rfl := z_some h
      refine v_sub [] rfl ?_
      exact hk
def f_X1_isBlank (G : z_G) (D : z_D) (a0 : Nat) (a1 : Int32) : Option (Int32) :=
  ((z_loop (fun v => c_X1_isBlank_2 G D a0 a1 v) 4000 (0 : Int32)).bind (Sum.elim (fun e6 => (some (0 : Int32))) (fun e6 => (some (1 : Int32)))))
set_option maxRecDepth 100000 in
set_option maxHeartbeats 4000000 in
theorem b_X1_isBlank {q : z_Q} {X : z_X} {G : z_G} {D : z_D} {a0 : Nat} {a1 : Int32} {r : Int32} (o : z_O q X cX1_isBlank 3 "FlashTrust$Flash" "isBlank" (some .boolean)) (hX : x_R X = z_rm 1 0 0) (hK0 : z_K G a0 = 101) (h : f_X1_isBlank G D a0 a1 = some r) : z_V q X 3 (z_F q X (some (.int r)) G D 0 0) 0 0 G D 0 [(0, .ref (z_w q a0)), (1, .int a1)] [] := by
  unfold f_X1_isBlank at h
  refine v_iconst o (0 : Int32) dX1_isBlank_0 (by decide) ?_
  refine v_istore_n o [(2, .int (0 : Int32)), (0, .ref (z_w q a0)), (1, .int a1)] dX1_isBlank_1 rfl (by decide) rfl ?_
  refine v_sub [1, 2, 0] rfl ?_
  obtain ⟨e6, he7, h⟩ := z_bind h
  refine z_loopV (P := p_X1_isBlank_2 q X _ G D a0 a1) (E := x_X1_isBlank_2 q X _ G D a0 a1) (fun v ρ hb hk => tc_X1_isBlank_2 (D := D) (a0 := a0) (a1 := a1) (a2 := v) o hX hK0 hb hk) 4000 _ e6 he7 ?_
  rcases e6 with e6 | e6
  · replace h := z_el h
    show z_V q X 3 _ _ _ G D 27 [] []
    refine v_iconst o (0 : Int32) dX1_isBlank_27 (by decide) ?_
    have hr := z_some h
    subst hr
    exact v_zreturn o (by decide) dX1_isBlank_28
  · replace h := z_er h
    show z_V q X 3 _ _ _ G D 35 [] []
    refine v_iconst o (1 : Int32) dX1_isBlank_35 (by decide) ?_
    have hr := z_some h
    subst hr
    exact v_zreturn o (by decide) dX1_isBlank_36
theorem e_X1_isBlank {q : z_Q} {l : Launch} {G : z_G} {D : z_D} {a0 : Nat} {a1 : Int32} {r : Int32} (hK0 : z_K G a0 = 101) (h : f_X1_isBlank G D a0 a1 = some r) : z_E q l yX1_isBlank cX1_isBlank 3 (some .boolean) 1 0 0 [.ref (z_w q a0), .int a1] G D (some (.int r)) G D :=
  z_E.of (by decide) (Nat.le_of_ble_eq_true rfl) (fun X hX _ o => b_X1_isBlank o hX hK0 h)
def f_X1_lowest (G : z_G) (D : z_D) (a0 : Int64) : Option (Int64) :=
  (some (a0 &&& (281474976710655 : Int64)))
set_option maxRecDepth 100000 in
set_option maxHeartbeats 4000000 in
theorem b_X1_lowest {q : z_Q} {X : z_X} {G : z_G} {D : z_D} {a0 : Int64} {r : Int64} (o : z_O q X cX1_lowest 2 "FlashTrust$Flash" "lowest" (some .long)) (hX : x_R X = z_rm 0 0 0)  (h : f_X1_lowest G D a0 = some r) : z_V q X 2 (z_F q X (some (.long r)) G D 0 0) 0 0 G D 0 [(0, .long a0)] [] := by
  unfold f_X1_lowest at h
  refine v_lload_n o dX1_lowest_0 rfl 0 rfl ?_
  refine v_ldc2 o ln_2_83 dX1_lowest_1 ?_
  refine v_land o dX1_lowest_4 ?_
  have hr := z_some h
  subst hr
  exact v_lreturn o dX1_lowest_5
theorem e_X1_lowest {q : z_Q} {l : Launch} {G : z_G} {D : z_D} {a0 : Int64} {r : Int64} (h : f_X1_lowest G D a0 = some r) : z_E q l yX1_lowest cX1_lowest 2 (some .long) 0 0 0 [.long a0] G D (some (.long r)) G D :=
  z_E.of (by decide) (Nat.le_of_ble_eq_true rfl) (fun X hX _ o => b_X1_lowest o hX h)
def f_X1_programHash (G : z_G) (D : z_D) (a0 : Nat) (a1 : Int32) (a2 : Int32) : Option (Int64) :=
  z_gK G 105 (z_R G 100 a0) ((f_X1_slotStart G D a1).bind (fun r3 => ((f_X5_hash G D (z_R G 100 a0) r3 a2).bind (fun r5 => ((f_X1_lowest G D r5).bind (fun r7 => ((some r7))))))))
set_option maxRecDepth 100000 in
set_option maxHeartbeats 4000000 in
theorem b_X1_programHash {q : z_Q} {X : z_X} {G : z_G} {D : z_D} {a0 : Nat} {a1 : Int32} {a2 : Int32} {r : Int64} (o : z_O q X cX1_programHash 3 "FlashTrust$Flash" "programHash" (some .long)) (hX : x_R X = z_rm 1 0 0) (hK0 : z_K G a0 = 101) (h : f_X1_programHash G D a0 a1 a2 = some r) : z_V q X 3 (z_F q X (some (.long r)) G D 0 0) 0 0 G D 0 [(0, .ref (z_w q a0)), (1, .int a1), (2, .int a2)] [] := by
  unfold f_X1_programHash at h
  refine v_aload_n o dX1_programHash_0 rfl 0 rfl ?_
  obtain ⟨n1, h⟩ := z_gK_of h
  refine gt_1_0 o hK0 ln_1_144 (by rw [n1]; decide) dX1_programHash_1 ?_
  refine v_iload_n o dX1_programHash_4 rfl 1 rfl ?_
  obtain ⟨r3, he2, h⟩ := z_bind h
  refine v_callS o yw_X1_slotStart ln_1_137 ws_X1_slotStart hX (by decide) (As := [.int a1]) rfl rfl (Nat.le_of_ble_eq_true rfl) (e_X1_slotStart he2) dX1_programHash_5 ?_
  refine v_iload_n o dX1_programHash_8 rfl 2 rfl ?_
  obtain ⟨r5, he4, h⟩ := z_bind h
  refine v_callV o yw_X5_hash ln_2_74 wi_X5_hash ws_X5_hash hX (by decide) 5 rfl n1 (As := [.int r3, .int a2]) rfl rfl (Nat.le_of_ble_eq_true rfl) (e_X5_hash n1 he4) dX1_programHash_9 ?_
  obtain ⟨r7, he6, h⟩ := z_bind h
  refine v_callS o yw_X1_lowest ln_2_80 ws_X1_lowest hX (by decide) (As := [.long r5]) rfl rfl (Nat.le_of_ble_eq_true rfl) (e_X1_lowest he6) dX1_programHash_12 ?_
  have hr := z_some h
  subst hr
  exact v_lreturn o dX1_programHash_15
theorem e_X1_programHash {q : z_Q} {l : Launch} {G : z_G} {D : z_D} {a0 : Nat} {a1 : Int32} {a2 : Int32} {r : Int64} (hK0 : z_K G a0 = 101) (h : f_X1_programHash G D a0 a1 a2 = some r) : z_E q l yX1_programHash cX1_programHash 3 (some .long) 1 0 0 [.ref (z_w q a0), .int a1, .int a2] G D (some (.long r)) G D :=
  z_E.of (by decide) (Nat.le_of_ble_eq_true rfl) (fun X hX _ o => b_X1_programHash o hX hK0 h)
def p_X1_lastWrittenPiece_4 (q : z_Q) (X : z_X) (Q : State → Prop) (G : z_G) (D : z_D) (a0 : Nat) (a1 : Int32) : Int32 → Prop := (fun v => z_V q X 4 Q 0 0 G D 4 [(0, .ref (z_w q a0)), (1, .int a1), (3, .int v)] [])
def x_X1_lastWrittenPiece_4 (q : z_Q) (X : z_X) (Q : State → Prop) (G : z_G) (D : z_D) (a0 : Nat) (a1 : Int32) : (Int32 ⊕ Unit) → Prop := (Sum.elim (fun v => z_V q X 4 Q 0 0 G D 27 [(3, .int v)] []) (fun v => z_V q X 4 Q 0 0 G D 38 [] []))
def k_X1_lastWrittenPiece_4 (q : z_Q) (X : z_X) (Q : State → Prop) (G : z_G) (D : z_D) (a0 : Nat) (a1 : Int32) : Int32 ⊕ (Int32 ⊕ Unit) → Prop := Sum.elim (p_X1_lastWrittenPiece_4 q X Q G D a0 a1) (x_X1_lastWrittenPiece_4 q X Q G D a0 a1)
def c_X1_lastWrittenPiece_4 (G : z_G) (D : z_D) (a0 : Nat) (a1 : Int32) (a3 : Int32) : Option (Int32 ⊕ (Int32 ⊕ Unit)) :=
  (if a3 < (0 : Int32) then (some (.inr (.inr ()))) else (z_gK G 105 (z_R G 100 a0) ((f_X1_slotStart G D a1).bind (fun r4 => ((f_X5_at G D (z_R G 100 a0) (r4 + a3)).bind (fun r6 => ((if r6 = (255 : Int32) then ((some (.inl (a3 + (-1 : Int32))))) else (some (.inr (.inl a3)))))))))))
set_option maxRecDepth 100000 in
set_option maxHeartbeats 4000000 in
theorem tc_X1_lastWrittenPiece_4 {q : z_Q} {X : z_X} {G : z_G} {D : z_D} {Q : State → Prop} {a0 : Nat} {a1 : Int32} {a3 : Int32} (o : z_O q X cX1_lastWrittenPiece 4 "FlashTrust$Flash" "lastWrittenPiece" (some .int)) (hX : x_R X = z_rm 1 0 0) (hK0 : z_K G a0 = 101) {ρ : Int32 ⊕ (Int32 ⊕ Unit)} (h : c_X1_lastWrittenPiece_4 G D a0 a1 a3 = some ρ) (hk : k_X1_lastWrittenPiece_4 q X Q G D a0 a1 ρ) : z_V q X 4 Q 0 0 G D 4 [(0, .ref (z_w q a0)), (1, .int a1), (3, .int a3)] [] := by
  unfold c_X1_lastWrittenPiece_4 at h
  refine v_iload_n o dX1_lastWrittenPiece_4 rfl 2 rfl ?_
  refine v_if_lt o 38 dX1_lastWrittenPiece_5 (by decide) (fun c1 => ?_) (fun c1 => ?_)
  · replace h := z_ip c1 h
    obtain rfl := z_some h
    refine v_sub [] rfl ?_
    exact hk
  · replace h := z_in c1 h
    refine v_aload_n o dX1_lastWrittenPiece_8 rfl 0 rfl ?_
    obtain ⟨n2, h⟩ := z_gK_of h
    refine gt_1_0 o hK0 ln_1_144 (by rw [n2]; decide) dX1_lastWrittenPiece_9 ?_
    refine v_iload_n o dX1_lastWrittenPiece_12 rfl 1 rfl ?_
    obtain ⟨r4, he3, h⟩ := z_bind h
    refine v_callS o yw_X1_slotStart ln_1_137 ws_X1_slotStart hX (by decide) (As := [.int a1]) rfl rfl (Nat.le_of_ble_eq_true rfl) (e_X1_slotStart he3) dX1_lastWrittenPiece_13 ?_
    refine v_iload_n o dX1_lastWrittenPiece_16 rfl 2 rfl ?_
    refine v_iadd o dX1_lastWrittenPiece_17 ?_
    obtain ⟨r6, he5, h⟩ := z_bind h
    refine v_callV o yw_X5_at ln_2_174 wi_X5_at ws_X5_at hX (by decide) 5 rfl n2 (As := [.int (r4 + a3)]) rfl rfl (Nat.le_of_ble_eq_true rfl) (e_X5_at n2 he5) dX1_lastWrittenPiece_18 ?_
    refine v_sipush o (255 : Int32) dX1_lastWrittenPiece_21 (by decide) ?_
    refine v_icmp_eq o 32 dX1_lastWrittenPiece_24 (by decide) (fun c7 => ?_) (fun c7 => ?_)
    · replace h := z_ip c7 h
      refine v_iinc o (a3 + (-1 : Int32)) [(3, .int (a3 + (-1 : Int32))), (0, .ref (z_w q a0)), (1, .int a1)] dX1_lastWrittenPiece_32 2 rfl rfl (by decide) rfl ?_
      refine v_goto o 4 dX1_lastWrittenPiece_35 (by decide) ?_
      obtain rfl := z_some h
      refine v_sub [1, 2, 0] rfl ?_
      exact hk
    · replace h := z_in c7 h
      obtain rfl := z_some h
      refine v_sub [2] rfl ?_
      exact hk
def f_X1_lastWrittenPiece (G : z_G) (D : z_D) (a0 : Nat) (a1 : Int32) (a2 : Int32) : Option (Int32) :=
  ((z_loop (fun v => c_X1_lastWrittenPiece_4 G D a0 a1 v) 4000 (a2 - (1 : Int32))).bind (Sum.elim (fun e8 => (some (e8 / (64 : Int32)))) (fun e8 => (some (0 : Int32)))))
set_option maxRecDepth 100000 in
set_option maxHeartbeats 4000000 in
theorem b_X1_lastWrittenPiece {q : z_Q} {X : z_X} {G : z_G} {D : z_D} {a0 : Nat} {a1 : Int32} {a2 : Int32} {r : Int32} (o : z_O q X cX1_lastWrittenPiece 4 "FlashTrust$Flash" "lastWrittenPiece" (some .int)) (hX : x_R X = z_rm 1 0 0) (hK0 : z_K G a0 = 101) (h : f_X1_lastWrittenPiece G D a0 a1 a2 = some r) : z_V q X 4 (z_F q X (some (.int r)) G D 0 0) 0 0 G D 0 [(0, .ref (z_w q a0)), (1, .int a1), (2, .int a2)] [] := by
  unfold f_X1_lastWrittenPiece at h
  refine v_iload_n o dX1_lastWrittenPiece_0 rfl 2 rfl ?_
  refine v_iconst o (1 : Int32) dX1_lastWrittenPiece_1 (by decide) ?_
  refine v_isub o dX1_lastWrittenPiece_2 ?_
  refine v_istore_n o [(3, .int (a2 - (1 : Int32))), (0, .ref (z_w q a0)), (1, .int a1), (2, .int a2)] dX1_lastWrittenPiece_3 rfl (by decide) rfl ?_
  refine v_sub [1, 2, 0] rfl ?_
  obtain ⟨e8, he9, h⟩ := z_bind h
  refine z_loopV (P := p_X1_lastWrittenPiece_4 q X _ G D a0 a1) (E := x_X1_lastWrittenPiece_4 q X _ G D a0 a1) (fun v ρ hb hk => tc_X1_lastWrittenPiece_4 (D := D) (a0 := a0) (a1 := a1) (a3 := v) o hX hK0 hb hk) 4000 _ e8 he9 ?_
  rcases e8 with e8 | e8
  · replace h := z_el h
    show z_V q X 4 _ _ _ G D 27 [(3, .int e8)] []
    refine v_iload_n o dX1_lastWrittenPiece_27 rfl 0 rfl ?_
    refine v_bipush o (64 : Int32) dX1_lastWrittenPiece_28 (by decide) ?_
    refine v_idiv o dX1_lastWrittenPiece_30 (by decide) ?_
    have hr := z_some h
    subst hr
    exact v_ireturn o dX1_lastWrittenPiece_31
  · replace h := z_er h
    show z_V q X 4 _ _ _ G D 38 [] []
    refine v_iconst o (0 : Int32) dX1_lastWrittenPiece_38 (by decide) ?_
    have hr := z_some h
    subst hr
    exact v_ireturn o dX1_lastWrittenPiece_39
theorem e_X1_lastWrittenPiece {q : z_Q} {l : Launch} {G : z_G} {D : z_D} {a0 : Nat} {a1 : Int32} {a2 : Int32} {r : Int32} (hK0 : z_K G a0 = 101) (h : f_X1_lastWrittenPiece G D a0 a1 a2 = some r) : z_E q l yX1_lastWrittenPiece cX1_lastWrittenPiece 4 (some .int) 1 0 0 [.ref (z_w q a0), .int a1, .int a2] G D (some (.int r)) G D :=
  z_E.of (by decide) (Nat.le_of_ble_eq_true rfl) (fun X hX _ o => b_X1_lastWrittenPiece o hX hK0 h)
def p_X4_becomeFactoryRoot_24 (q : z_Q) (X : z_X) (Q : State → Prop) (G : z_G) (a0 : Nat) : (z_D × Int32) → Prop := (fun v => z_V q X 2 Q 0 0 G v.1 24 [(0, .ref (z_w q a0)), (1, .int v.2)] [])
def x_X4_becomeFactoryRoot_24 (q : z_Q) (X : z_X) (Q : State → Prop) (G : z_G) (a0 : Nat) : z_D → Prop := (fun v => z_V q X 2 Q 0 0 G v 57 [] [])
def k_X4_becomeFactoryRoot_24 (q : z_Q) (X : z_X) (Q : State → Prop) (G : z_G) (a0 : Nat) : (z_D × Int32) ⊕ z_D → Prop := Sum.elim (p_X4_becomeFactoryRoot_24 q X Q G a0) (x_X4_becomeFactoryRoot_24 q X Q G a0)
def c_X4_becomeFactoryRoot_24 (G : z_G) (D : z_D) (a0 : Nat) (a1 : Int32) : Option ((z_D × Int32) ⊕ z_D) :=
  (if (4 : Int32) ≤ a1 then (some (.inr D)) else (z_gK G 1 (z_R G 407 a0) (z_g4 a1 (z_gA G 1 (z_R G 407 a0) a1 (z_gK G 1 (z_R G 408 a0) (z_g4 a1 (z_gA G 1 (z_R G 408 a0) a1 ((some (.inl ((z_sU (z_sU D (z_R G 407 a0) (a1).toNatClampNeg (z_k1 (a1).toNatClampNeg)) (z_R G 408 a0) (a1).toNatClampNeg (z_k2 (a1).toNatClampNeg)), (a1 + (1 : Int32)))))))))))))
set_option maxRecDepth 100000 in
set_option maxHeartbeats 4000000 in
theorem tc_X4_becomeFactoryRoot_24 {q : z_Q} {X : z_X} {G : z_G} {D : z_D} {Q : State → Prop} {a0 : Nat} {a1 : Int32} (o : z_O q X cX4_becomeFactoryRoot 2 "FlashTrust$Paper" "becomeFactoryRoot" none) (hX : x_R X = z_rm 0 0 0) (hK0 : z_K G a0 = 104) {ρ : (z_D × Int32) ⊕ z_D} (h : c_X4_becomeFactoryRoot_24 G D a0 a1 = some ρ) (hk : k_X4_becomeFactoryRoot_24 q X Q G a0 ρ) : z_V q X 2 Q 0 0 G D 24 [(0, .ref (z_w q a0)), (1, .int a1)] [] := by
  unfold c_X4_becomeFactoryRoot_24 at h
  refine v_iload_n o dX4_becomeFactoryRoot_24 rfl 1 rfl ?_
  refine v_iconst o (4 : Int32) dX4_becomeFactoryRoot_25 (by decide) ?_
  refine v_icmp_ge o 57 dX4_becomeFactoryRoot_26 (by decide) (fun c1 => ?_) (fun c1 => ?_)
  · replace h := z_ip c1 h
    obtain rfl := z_some h
    refine v_sub [] rfl ?_
    exact hk
  · replace h := z_in c1 h
    refine v_aload_n o dX4_becomeFactoryRoot_29 rfl 0 rfl ?_
    obtain ⟨n2, h⟩ := z_gK_of h
    refine gt_4_7 o hK0 ln_1_196 (by rw [n2]; decide) dX4_becomeFactoryRoot_30 ?_
    refine v_iload_n o dX4_becomeFactoryRoot_33 rfl 1 rfl ?_
    refine z_gets o o.st.2.2.1.1 (List.mem_of_getElem? (i := 6) rfl) dX4_becomeFactoryRoot_34 ?_
    refine v_iload_n o dX4_becomeFactoryRoot_37 rfl 1 rfl ?_
    obtain ⟨n3, h⟩ := z_g4_of h
    refine z_sald o o.st.2.2.1.2 n3 dX4_becomeFactoryRoot_38 ?_
    obtain ⟨n4, n5, h⟩ := z_gA_of h
    refine v_iast o n4 n5 dX4_becomeFactoryRoot_39 ?_
    refine v_aload_n o dX4_becomeFactoryRoot_40 rfl 0 rfl ?_
    obtain ⟨n6, h⟩ := z_gK_of h
    refine gt_4_8 o hK0 ln_1_198 (by rw [n6]; decide) dX4_becomeFactoryRoot_41 ?_
    refine v_iload_n o dX4_becomeFactoryRoot_44 rfl 1 rfl ?_
    refine z_gets o o.st.2.2.2.1.1 (List.mem_of_getElem? (i := 7) rfl) dX4_becomeFactoryRoot_45 ?_
    refine v_iload_n o dX4_becomeFactoryRoot_48 rfl 1 rfl ?_
    obtain ⟨n7, h⟩ := z_g4_of h
    refine z_sald o o.st.2.2.2.1.2 n7 dX4_becomeFactoryRoot_49 ?_
    obtain ⟨n8, n9, h⟩ := z_gA_of h
    refine v_iast o n8 n9 dX4_becomeFactoryRoot_50 ?_
    refine v_iinc o (a1 + (1 : Int32)) [(1, .int (a1 + (1 : Int32))), (0, .ref (z_w q a0))] dX4_becomeFactoryRoot_51 1 rfl rfl (by decide) rfl ?_
    refine v_goto o 24 dX4_becomeFactoryRoot_54 (by decide) ?_
    obtain rfl := z_some h
    refine v_sub [1, 0] rfl ?_
    exact hk
def f_X4_becomeFactoryRoot (G : z_G) (D : z_D) (a0 : Nat) : Option (z_D) :=
  ((z_loop (fun v => c_X4_becomeFactoryRoot_24 G v.1 a0 v.2) 4000 ((z_sI (z_sJ (z_sI (z_sI D 401 a0 (0 : Int32)) 402 a0 (1 : Int32)) 403 a0 (1000 : Int64)) 404 a0 (0 : Int32)), (0 : Int32))).bind (fun e10 => (some e10)))
set_option maxRecDepth 100000 in
set_option maxHeartbeats 4000000 in
theorem b_X4_becomeFactoryRoot {q : z_Q} {X : z_X} {G : z_G} {D : z_D} {a0 : Nat}  {D1 : z_D} (o : z_O q X cX4_becomeFactoryRoot 2 "FlashTrust$Paper" "becomeFactoryRoot" none) (hX : x_R X = z_rm 0 0 0) (hK0 : z_K G a0 = 104) (h : f_X4_becomeFactoryRoot G D a0 = some D1) : z_V q X 2 (z_F q X none G D1 0 0) 0 0 G D 0 [(0, .ref (z_w q a0))] [] := by
  unfold f_X4_becomeFactoryRoot at h
  refine v_aload_n o dX4_becomeFactoryRoot_0 rfl 0 rfl ?_
  refine v_iconst o (0 : Int32) dX4_becomeFactoryRoot_1 (by decide) ?_
  refine pt_4_1 o hK0 ln_1_184 dX4_becomeFactoryRoot_2 ?_
  refine v_aload_n o dX4_becomeFactoryRoot_5 rfl 0 rfl ?_
  refine v_iconst o (1 : Int32) dX4_becomeFactoryRoot_6 (by decide) ?_
  refine pt_4_2 o hK0 ln_1_187 dX4_becomeFactoryRoot_7 ?_
  refine v_aload_n o dX4_becomeFactoryRoot_10 rfl 0 rfl ?_
  refine v_ldc2 o ln_2_40 dX4_becomeFactoryRoot_11 ?_
  refine pt_4_3 o hK0 ln_1_189 dX4_becomeFactoryRoot_14 ?_
  refine v_aload_n o dX4_becomeFactoryRoot_17 rfl 0 rfl ?_
  refine v_iconst o (0 : Int32) dX4_becomeFactoryRoot_18 (by decide) ?_
  refine pt_4_4 o hK0 ln_1_191 dX4_becomeFactoryRoot_19 ?_
  refine v_iconst o (0 : Int32) dX4_becomeFactoryRoot_22 (by decide) ?_
  refine v_istore_n o [(1, .int (0 : Int32)), (0, .ref (z_w q a0))] dX4_becomeFactoryRoot_23 rfl (by decide) rfl ?_
  refine v_sub [1, 0] rfl ?_
  obtain ⟨e10, he11, h⟩ := z_bind h
  refine z_loopV (P := p_X4_becomeFactoryRoot_24 q X _ G a0) (E := x_X4_becomeFactoryRoot_24 q X _ G a0) (fun v ρ hb hk => tc_X4_becomeFactoryRoot_24 (D := v.1) (a0 := a0) (a1 := v.2) o hX hK0 hb hk) 4000 _ e10 he11 ?_
  show z_V q X 2 _ _ _ G e10 57 [] []
  have hr := z_some h
  subst hr
  exact v_return o dX4_becomeFactoryRoot_57
theorem e_X4_becomeFactoryRoot {q : z_Q} {l : Launch} {G : z_G} {D : z_D} {a0 : Nat}  {D1 : z_D} (hK0 : z_K G a0 = 104) (h : f_X4_becomeFactoryRoot G D a0 = some D1) : z_E q l yX4_becomeFactoryRoot cX4_becomeFactoryRoot 2 none 0 0 0 [.ref (z_w q a0)] G D none G D1 :=
  z_E.of (by decide) (Nat.le_of_ble_eq_true rfl) (fun X hX _ o => b_X4_becomeFactoryRoot o hX hK0 h)
def f_X4_readHead (G : z_G) (D : z_D) (a0 : Nat) : Option (Int32 × z_D) :=
  (if (z_I D 406 a0) < (6 : Int32) then ((some ((0 : Int32), D))) else (z_gK G 105 (z_R G 400 a0) ((f_X5_size G D (z_R G 400 a0)).bind (fun r4 => ((if ((3 : Int32) + (z_I D 406 a0)) < r4 then ((f_X5_number G D (z_R G 400 a0) (3 : Int32) (2 : Int32)).bind (fun r7 => ((f_X5_number G (z_sI D 402 a0 ((r7).toInt32)) (z_R G 400 a0) (5 : Int32) (4 : Int32)).bind (fun r9 => ((if (z_I (z_sJ (z_sI D 402 a0 ((r7).toInt32)) 403 a0 r9) 402 a0) ≤ (0 : Int32) then ((some ((0 : Int32), (z_sJ (z_sI D 402 a0 ((r7).toInt32)) 403 a0 r9)))) else (((some ((1 : Int32), (z_sJ (z_sI D 402 a0 ((r7).toInt32)) 403 a0 r9))))))))))) else ((some ((0 : Int32), D)))))))))
set_option maxRecDepth 100000 in
set_option maxHeartbeats 4000000 in
theorem b_X4_readHead {q : z_Q} {X : z_X} {G : z_G} {D : z_D} {a0 : Nat} {r : Int32} {D1 : z_D} (o : z_O q X cX4_readHead 1 "FlashTrust$Paper" "readHead" (some .boolean)) (hX : x_R X = z_rm 1 0 0) (hK0 : z_K G a0 = 104) (h : f_X4_readHead G D a0 = some (r, D1)) : z_V q X 1 (z_F q X (some (.int r)) G D1 0 0) 0 0 G D 0 [(0, .ref (z_w q a0))] [] := by
  unfold f_X4_readHead at h
  refine v_aload_n o dX4_readHead_0 rfl 0 rfl ?_
  refine gt_4_6 o hK0 ln_1_195 dX4_readHead_1 ?_
  refine v_bipush o (6 : Int32) dX4_readHead_4 (by decide) ?_
  refine v_icmp_lt o 25 dX4_readHead_6 (by decide) (fun c1 => ?_) (fun c1 => ?_)
  · replace h := z_ip c1 h
    refine v_iconst o (0 : Int32) dX4_readHead_25 (by decide) ?_
    obtain ⟨hr, hs⟩ := Prod.mk.inj (z_some h)
    subst hr
    subst hs
    exact v_zreturn o (by decide) dX4_readHead_26
  · replace h := z_in c1 h
    refine v_iconst o (3 : Int32) dX4_readHead_9 (by decide) ?_
    refine v_aload_n o dX4_readHead_10 rfl 0 rfl ?_
    refine gt_4_6 o hK0 ln_1_195 dX4_readHead_11 ?_
    refine v_iadd o dX4_readHead_14 ?_
    refine v_aload_n o dX4_readHead_15 rfl 0 rfl ?_
    obtain ⟨n2, h⟩ := z_gK_of h
    refine gt_4_0 o hK0 ln_1_182 (by rw [n2]; decide) dX4_readHead_16 ?_
    obtain ⟨r4, he3, h⟩ := z_bind h
    refine v_callV o yw_X5_size ln_4_2 wi_X5_size ws_X5_size hX (by decide) 5 rfl n2 (As := []) rfl rfl (Nat.le_of_ble_eq_true rfl) (e_X5_size n2 he3) dX4_readHead_19 ?_
    refine v_icmp_lt o 27 dX4_readHead_22 (by decide) (fun c5 => ?_) (fun c5 => ?_)
    · replace h := z_ip c5 h
      refine v_aload_n o dX4_readHead_27 rfl 0 rfl ?_
      refine v_aload_n o dX4_readHead_28 rfl 0 rfl ?_
      refine gt_4_0 o hK0 ln_1_182 (by rw [n2]; decide) dX4_readHead_29 ?_
      refine v_iconst o (3 : Int32) dX4_readHead_32 (by decide) ?_
      refine v_iconst o (2 : Int32) dX4_readHead_33 (by decide) ?_
      obtain ⟨r7, he6, h⟩ := z_bind h
      refine v_callV o yw_X5_number ln_3_237 wi_X5_number ws_X5_number hX (by decide) 5 rfl n2 (As := [.int (3 : Int32), .int (2 : Int32)]) rfl rfl (Nat.le_of_ble_eq_true rfl) (e_X5_number n2 he6) dX4_readHead_34 ?_
      refine v_l2i o dX4_readHead_37 ?_
      refine pt_4_2 o hK0 ln_1_187 dX4_readHead_38 ?_
      refine v_aload_n o dX4_readHead_41 rfl 0 rfl ?_
      refine v_aload_n o dX4_readHead_42 rfl 0 rfl ?_
      refine gt_4_0 o hK0 ln_1_182 (by rw [n2]; decide) dX4_readHead_43 ?_
      refine v_iconst o (5 : Int32) dX4_readHead_46 (by decide) ?_
      refine v_iconst o (4 : Int32) dX4_readHead_47 (by decide) ?_
      obtain ⟨r9, he8, h⟩ := z_bind h
      refine v_callV o yw_X5_number ln_3_237 wi_X5_number ws_X5_number hX (by decide) 5 rfl n2 (As := [.int (5 : Int32), .int (4 : Int32)]) rfl rfl (Nat.le_of_ble_eq_true rfl) (e_X5_number n2 he8) dX4_readHead_48 ?_
      refine pt_4_3 o hK0 ln_1_189 dX4_readHead_51 ?_
      refine v_aload_n o dX4_readHead_54 rfl 0 rfl ?_
      refine gt_4_2 o hK0 ln_1_187 dX4_readHead_55 ?_
      refine v_if_le o 65 dX4_readHead_58 (by decide) (fun c10 => ?_) (fun c10 => ?_)
      · replace h := z_ip c10 h
        refine v_iconst o (0 : Int32) dX4_readHead_65 (by decide) ?_
        obtain ⟨hr, hs⟩ := Prod.mk.inj (z_some h)
        subst hr
        subst hs
        exact v_zreturn o (by decide) dX4_readHead_66
      · replace h := z_in c10 h
        refine v_iconst o (1 : Int32) dX4_readHead_61 (by decide) ?_
        refine v_goto o 66 dX4_readHead_62 (by decide) ?_
        obtain ⟨hr, hs⟩ := Prod.mk.inj (z_some h)
        subst hr
        subst hs
        exact v_zreturn o (by decide) dX4_readHead_66
    · replace h := z_in c5 h
      refine v_iconst o (0 : Int32) dX4_readHead_25 (by decide) ?_
      obtain ⟨hr, hs⟩ := Prod.mk.inj (z_some h)
      subst hr
      subst hs
      exact v_zreturn o (by decide) dX4_readHead_26
theorem e_X4_readHead {q : z_Q} {l : Launch} {G : z_G} {D : z_D} {a0 : Nat} {r : Int32} {D1 : z_D} (hK0 : z_K G a0 = 104) (h : f_X4_readHead G D a0 = some (r, D1)) : z_E q l yX4_readHead cX4_readHead 1 (some .boolean) 1 0 0 [.ref (z_w q a0)] G D (some (.int r)) G D1 :=
  z_E.of (by decide) (Nat.le_of_ble_eq_true rfl) (fun X hX _ o => b_X4_readHead o hX hK0 h)
def f_X4_readKeys (G : z_G) (D : z_D) (a0 : Nat) : Option (Int32 × z_D) :=
  z_gK G 105 (z_R G 400 a0) ((f_X5_at G D (z_R G 400 a0) ((3 : Int32) + (z_I D 406 a0))).bind (fun r3 => ((f_X5_keyBits G D (z_R G 400 a0) (((3 : Int32) + (z_I D 406 a0)) + (1 : Int32)) r3).bind (fun r5 => ((if (z_I (z_sI D 404 a0 r5) 404 a0) < (0 : Int32) then ((some ((0 : Int32), (z_sI D 404 a0 r5)))) else ((f_X5_size G (z_sI D 404 a0 r5) (z_R G 400 a0)).bind (fun r8 => ((if ((((3 : Int32) + (z_I D 406 a0)) + (1 : Int32)) + r3) = r8 then (((some ((1 : Int32), (z_sI D 404 a0 r5))))) else ((some ((0 : Int32), (z_sI D 404 a0 r5))))))))))))))
set_option maxRecDepth 100000 in
set_option maxHeartbeats 4000000 in
theorem b_X4_readKeys {q : z_Q} {X : z_X} {G : z_G} {D : z_D} {a0 : Nat} {r : Int32} {D1 : z_D} (o : z_O q X cX4_readKeys 3 "FlashTrust$Paper" "readKeys" (some .boolean)) (hX : x_R X = z_rm 1 0 0) (hK0 : z_K G a0 = 104) (h : f_X4_readKeys G D a0 = some (r, D1)) : z_V q X 3 (z_F q X (some (.int r)) G D1 0 0) 0 0 G D 0 [(0, .ref (z_w q a0))] [] := by
  unfold f_X4_readKeys at h
  refine v_iconst o (3 : Int32) dX4_readKeys_0 (by decide) ?_
  refine v_aload_n o dX4_readKeys_1 rfl 0 rfl ?_
  refine gt_4_6 o hK0 ln_1_195 dX4_readKeys_2 ?_
  refine v_iadd o dX4_readKeys_5 ?_
  refine v_istore_n o [(1, .int ((3 : Int32) + (z_I D 406 a0))), (0, .ref (z_w q a0))] dX4_readKeys_6 rfl (by decide) rfl ?_
  refine v_aload_n o dX4_readKeys_7 rfl 1 rfl ?_
  obtain ⟨n1, h⟩ := z_gK_of h
  refine gt_4_0 o hK0 ln_1_182 (by rw [n1]; decide) dX4_readKeys_8 ?_
  refine v_iload_n o dX4_readKeys_11 rfl 0 rfl ?_
  obtain ⟨r3, he2, h⟩ := z_bind h
  refine v_callV o yw_X5_at ln_3_236 wi_X5_at ws_X5_at hX (by decide) 5 rfl n1 (As := [.int ((3 : Int32) + (z_I D 406 a0))]) rfl rfl (Nat.le_of_ble_eq_true rfl) (e_X5_at n1 he2) dX4_readKeys_12 ?_
  refine v_istore_n o [(2, .int r3), (1, .int ((3 : Int32) + (z_I D 406 a0))), (0, .ref (z_w q a0))] dX4_readKeys_15 rfl (by decide) rfl ?_
  refine v_aload_n o dX4_readKeys_16 rfl 2 rfl ?_
  refine v_aload_n o dX4_readKeys_17 rfl 2 rfl ?_
  refine gt_4_0 o hK0 ln_1_182 (by rw [n1]; decide) dX4_readKeys_18 ?_
  refine v_iload_n o dX4_readKeys_21 rfl 1 rfl ?_
  refine v_iconst o (1 : Int32) dX4_readKeys_22 (by decide) ?_
  refine v_iadd o dX4_readKeys_23 ?_
  refine v_iload_n o dX4_readKeys_24 rfl 0 rfl ?_
  obtain ⟨r5, he4, h⟩ := z_bind h
  refine v_callV o yw_X5_keyBits ln_4_7 wi_X5_keyBits ws_X5_keyBits hX (by decide) 5 rfl n1 (As := [.int (((3 : Int32) + (z_I D 406 a0)) + (1 : Int32)), .int r3]) rfl rfl (Nat.le_of_ble_eq_true rfl) (e_X5_keyBits n1 he4) dX4_readKeys_25 ?_
  refine pt_4_4 o hK0 ln_1_191 dX4_readKeys_28 ?_
  refine v_aload_n o dX4_readKeys_31 rfl 2 rfl ?_
  refine gt_4_4 o hK0 ln_1_191 dX4_readKeys_32 ?_
  refine v_if_lt o 57 dX4_readKeys_35 (by decide) (fun c6 => ?_) (fun c6 => ?_)
  · replace h := z_ip c6 h
    refine v_iconst o (0 : Int32) dX4_readKeys_57 (by decide) ?_
    obtain ⟨hr, hs⟩ := Prod.mk.inj (z_some h)
    subst hr
    subst hs
    exact v_zreturn o (by decide) dX4_readKeys_58
  · replace h := z_in c6 h
    refine v_iload_n o dX4_readKeys_38 rfl 1 rfl ?_
    refine v_iconst o (1 : Int32) dX4_readKeys_39 (by decide) ?_
    refine v_iadd o dX4_readKeys_40 ?_
    refine v_iload_n o dX4_readKeys_41 rfl 0 rfl ?_
    refine v_iadd o dX4_readKeys_42 ?_
    refine v_aload_n o dX4_readKeys_43 rfl 2 rfl ?_
    refine gt_4_0 o hK0 ln_1_182 (by rw [n1]; decide) dX4_readKeys_44 ?_
    obtain ⟨r8, he7, h⟩ := z_bind h
    refine v_callV o yw_X5_size ln_4_2 wi_X5_size ws_X5_size hX (by decide) 5 rfl n1 (As := []) rfl rfl (Nat.le_of_ble_eq_true rfl) (e_X5_size n1 he7) dX4_readKeys_47 ?_
    refine v_icmp_ne o 57 dX4_readKeys_50 (by decide) (fun c9 => ?_) (fun c9 => ?_)
    · replace h := z_in c9 h
      refine v_iconst o (0 : Int32) dX4_readKeys_57 (by decide) ?_
      obtain ⟨hr, hs⟩ := Prod.mk.inj (z_some h)
      subst hr
      subst hs
      exact v_zreturn o (by decide) dX4_readKeys_58
    · replace h := z_ip c9 h
      refine v_iconst o (1 : Int32) dX4_readKeys_53 (by decide) ?_
      refine v_goto o 58 dX4_readKeys_54 (by decide) ?_
      obtain ⟨hr, hs⟩ := Prod.mk.inj (z_some h)
      subst hr
      subst hs
      exact v_zreturn o (by decide) dX4_readKeys_58
theorem e_X4_readKeys {q : z_Q} {l : Launch} {G : z_G} {D : z_D} {a0 : Nat} {r : Int32} {D1 : z_D} (hK0 : z_K G a0 = 104) (h : f_X4_readKeys G D a0 = some (r, D1)) : z_E q l yX4_readKeys cX4_readKeys 3 (some .boolean) 1 0 0 [.ref (z_w q a0)] G D (some (.int r)) G D1 :=
  z_E.of (by decide) (Nat.le_of_ble_eq_true rfl) (fun X hX _ o => b_X4_readKeys o hX hK0 h)
def p_X4_readRoot_12 (q : z_Q) (X : z_X) (Q : State → Prop) (G : z_G) (a0 : Nat) (a2 : Int32) : (z_D × Int32 × Int32) → Prop := (fun v => z_V q X 5 Q 0 0 G v.1 12 [(0, .ref (z_w q a0)), (1, .int v.2.1), (2, .int a2), (3, .int v.2.2)] [])
def x_X4_readRoot_12 (q : z_Q) (X : z_X) (Q : State → Prop) (G : z_G) (a0 : Nat) (a2 : Int32) : (z_D ⊕ (z_D ⊕ (z_D ⊕ (z_D × Int32)))) → Prop := (Sum.elim (fun v => z_V q X 5 Q 0 0 G v 24 [] []) (Sum.elim (fun v => z_V q X 5 Q 0 0 G v 54 [] []) (Sum.elim (fun v => z_V q X 5 Q 0 0 G v 118 [] []) (fun v => z_V q X 5 Q 0 0 G v.1 133 [(1, .int v.2), (2, .int a2)] []))))
def k_X4_readRoot_12 (q : z_Q) (X : z_X) (Q : State → Prop) (G : z_G) (a0 : Nat) (a2 : Int32) : (z_D × Int32 × Int32) ⊕ (z_D ⊕ (z_D ⊕ (z_D ⊕ (z_D × Int32)))) → Prop := Sum.elim (p_X4_readRoot_12 q X Q G a0 a2) (x_X4_readRoot_12 q X Q G a0 a2)
def c_X4_readRoot_12 (G : z_G) (D : z_D) (a0 : Nat) (a2 : Int32) (a1 : Int32) (a3 : Int32) : Option ((z_D × Int32 × Int32) ⊕ (z_D ⊕ (z_D ⊕ (z_D ⊕ (z_D × Int32))))) :=
  (if (4 : Int32) ≤ a3 then (some (.inr (.inr (.inr (.inr (D, a1)))))) else ((if (a1 + (2 : Int32)) ≤ a2 then (z_gK G 105 (z_R G 400 a0) ((f_X5_at G D (z_R G 400 a0) (a1 + (1 : Int32))).bind (fun r5 => ((if (5 : Int32) < r5 then (some (.inr (.inr (.inl D)))) else ((if ((a1 + (2 : Int32)) + r5) ≤ a2 then (z_gK G 1 (z_R G 408 a0) ((f_X5_at G D (z_R G 400 a0) a1).bind (fun r10 => (z_gA G 1 (z_R G 408 a0) a3 (z_gK G 1 (z_R G 407 a0) ((f_X5_keyBits G (z_sU D (z_R G 408 a0) (a3).toNatClampNeg r10) (z_R G 400 a0) (a1 + (2 : Int32)) r5).bind (fun r15 => (z_gA G 1 (z_R G 407 a0) a3 (z_gA G 1 (z_R G 407 a0) a3 ((if (z_U (z_sU (z_sU D (z_R G 408 a0) (a3).toNatClampNeg r10) (z_R G 407 a0) (a3).toNatClampNeg r15) (z_R G 407 a0) (a3).toNatClampNeg) < (0 : Int32) then (some (.inr (.inr (.inr (.inl (z_sU (z_sU D (z_R G 408 a0) (a3).toNatClampNeg r10) (z_R G 407 a0) (a3).toNatClampNeg r15)))))) else (z_gA G 1 (z_R G 408 a0) a3 ((if (z_U (z_sU (z_sU D (z_R G 408 a0) (a3).toNatClampNeg r10) (z_R G 407 a0) (a3).toNatClampNeg r15) (z_R G 408 a0) (a3).toNatClampNeg) < (1 : Int32) then (some (.inr (.inr (.inr (.inl (z_sU (z_sU D (z_R G 408 a0) (a3).toNatClampNeg r10) (z_R G 407 a0) (a3).toNatClampNeg r15)))))) else (z_gA G 1 (z_R G 408 a0) a3 ((if (z_U (z_sU (z_sU D (z_R G 408 a0) (a3).toNatClampNeg r10) (z_R G 407 a0) (a3).toNatClampNeg r15) (z_R G 408 a0) (a3).toNatClampNeg) ≤ r5 then ((some (.inl ((z_sU (z_sU D (z_R G 408 a0) (a3).toNatClampNeg r10) (z_R G 407 a0) (a3).toNatClampNeg r15), (a1 + ((2 : Int32) + r5)), (a3 + (1 : Int32)))))) else (some (.inr (.inr (.inr (.inl (z_sU (z_sU D (z_R G 408 a0) (a3).toNatClampNeg r10) (z_R G 407 a0) (a3).toNatClampNeg r15))))))))))))))))))))))) else (some (.inr (.inr (.inl D))))))))))) else (some (.inr (.inl D))))))
set_option maxRecDepth 100000 in
set_option maxHeartbeats 4000000 in
theorem tc_X4_readRoot_12 {q : z_Q} {X : z_X} {G : z_G} {D : z_D} {Q : State → Prop} {a0 : Nat} {a2 : Int32} {a1 : Int32} {a3 : Int32} (o : z_O q X cX4_readRoot 5 "FlashTrust$Paper" "readRoot" (some .boolean)) (hX : x_R X = z_rm 1 0 0) (hK0 : z_K G a0 = 104) {ρ : (z_D × Int32 × Int32) ⊕ (z_D ⊕ (z_D ⊕ (z_D ⊕ (z_D × Int32))))} (h : c_X4_readRoot_12 G D a0 a2 a1 a3 = some ρ) (hk : k_X4_readRoot_12 q X Q G a0 a2 ρ) : z_V q X 5 Q 0 0 G D 12 [(0, .ref (z_w q a0)), (1, .int a1), (2, .int a2), (3, .int a3)] [] := by
  unfold c_X4_readRoot_12 at h
  refine v_iload_n o dX4_readRoot_12 rfl 3 rfl ?_
  refine v_iconst o (4 : Int32) dX4_readRoot_13 (by decide) ?_
  refine v_icmp_ge o 133 dX4_readRoot_14 (by decide) (fun c1 => ?_) (fun c1 => ?_)
  · replace h := z_ip c1 h
    obtain rfl := z_some h
    refine v_sub [1, 2] rfl ?_
    exact hk
  · replace h := z_in c1 h
    refine v_iload_n o dX4_readRoot_17 rfl 1 rfl ?_
    refine v_iconst o (2 : Int32) dX4_readRoot_18 (by decide) ?_
    refine v_iadd o dX4_readRoot_19 ?_
    refine v_iload_n o dX4_readRoot_20 rfl 2 rfl ?_
    refine v_icmp_le o 26 dX4_readRoot_21 (by decide) (fun c2 => ?_) (fun c2 => ?_)
    · replace h := z_ip c2 h
      refine v_aload_n o dX4_readRoot_26 rfl 0 rfl ?_
      obtain ⟨n3, h⟩ := z_gK_of h
      refine gt_4_0 o hK0 ln_1_182 (by rw [n3]; decide) dX4_readRoot_27 ?_
      refine v_iload_n o dX4_readRoot_30 rfl 1 rfl ?_
      refine v_iconst o (1 : Int32) dX4_readRoot_31 (by decide) ?_
      refine v_iadd o dX4_readRoot_32 ?_
      obtain ⟨r5, he4, h⟩ := z_bind h
      refine v_callV o yw_X5_at ln_3_236 wi_X5_at ws_X5_at hX (by decide) 5 rfl n3 (As := [.int (a1 + (1 : Int32))]) rfl rfl (Nat.le_of_ble_eq_true rfl) (e_X5_at n3 he4) dX4_readRoot_33 ?_
      refine v_istore o [(4, .int r5), (0, .ref (z_w q a0)), (1, .int a1), (2, .int a2), (3, .int a3)] dX4_readRoot_36 (by decide) rfl ?_
      refine v_iload o dX4_readRoot_38 0 rfl ?_
      refine v_iconst o (5 : Int32) dX4_readRoot_40 (by decide) ?_
      refine v_icmp_gt o 54 dX4_readRoot_41 (by decide) (fun c6 => ?_) (fun c6 => ?_)
      · replace h := z_ip c6 h
        obtain rfl := z_some h
        refine v_sub [] rfl ?_
        exact hk
      · replace h := z_in c6 h
        refine v_iload_n o dX4_readRoot_44 rfl 2 rfl ?_
        refine v_iconst o (2 : Int32) dX4_readRoot_45 (by decide) ?_
        refine v_iadd o dX4_readRoot_46 ?_
        refine v_iload o dX4_readRoot_47 0 rfl ?_
        refine v_iadd o dX4_readRoot_49 ?_
        refine v_iload_n o dX4_readRoot_50 rfl 3 rfl ?_
        refine v_icmp_le o 56 dX4_readRoot_51 (by decide) (fun c7 => ?_) (fun c7 => ?_)
        · replace h := z_ip c7 h
          refine v_aload_n o dX4_readRoot_56 rfl 1 rfl ?_
          obtain ⟨n8, h⟩ := z_gK_of h
          refine gt_4_8 o hK0 ln_1_198 (by rw [n8]; decide) dX4_readRoot_57 ?_
          refine v_iload_n o dX4_readRoot_60 rfl 4 rfl ?_
          refine v_aload_n o dX4_readRoot_61 rfl 1 rfl ?_
          refine gt_4_0 o hK0 ln_1_182 (by rw [n3]; decide) dX4_readRoot_62 ?_
          refine v_iload_n o dX4_readRoot_65 rfl 2 rfl ?_
          obtain ⟨r10, he9, h⟩ := z_bind h
          refine v_callV o yw_X5_at ln_3_236 wi_X5_at ws_X5_at hX (by decide) 5 rfl n3 (As := [.int a1]) rfl rfl (Nat.le_of_ble_eq_true rfl) (e_X5_at n3 he9) dX4_readRoot_66 ?_
          obtain ⟨n11, n12, h⟩ := z_gA_of h
          refine v_iast o n11 n12 dX4_readRoot_69 ?_
          refine v_aload_n o dX4_readRoot_70 rfl 1 rfl ?_
          obtain ⟨n13, h⟩ := z_gK_of h
          refine gt_4_7 o hK0 ln_1_196 (by rw [n13]; decide) dX4_readRoot_71 ?_
          refine v_iload_n o dX4_readRoot_74 rfl 4 rfl ?_
          refine v_aload_n o dX4_readRoot_75 rfl 1 rfl ?_
          refine gt_4_0 o hK0 ln_1_182 (by rw [n3]; decide) dX4_readRoot_76 ?_
          refine v_iload_n o dX4_readRoot_79 rfl 2 rfl ?_
          refine v_iconst o (2 : Int32) dX4_readRoot_80 (by decide) ?_
          refine v_iadd o dX4_readRoot_81 ?_
          refine v_iload o dX4_readRoot_82 0 rfl ?_
          obtain ⟨r15, he14, h⟩ := z_bind h
          refine v_callV o yw_X5_keyBits ln_4_7 wi_X5_keyBits ws_X5_keyBits hX (by decide) 5 rfl n3 (As := [.int (a1 + (2 : Int32)), .int r5]) rfl rfl (Nat.le_of_ble_eq_true rfl) (e_X5_keyBits n3 he14) dX4_readRoot_84 ?_
          obtain ⟨n16, n17, h⟩ := z_gA_of h
          refine v_iast o n16 n17 dX4_readRoot_87 ?_
          refine v_aload_n o dX4_readRoot_88 rfl 1 rfl ?_
          refine gt_4_7 o hK0 ln_1_196 (by rw [n13]; decide) dX4_readRoot_89 ?_
          refine v_iload_n o dX4_readRoot_92 rfl 4 rfl ?_
          obtain ⟨n18, n19, h⟩ := z_gA_of h
          refine v_iald o n18 n19 dX4_readRoot_93 ?_
          refine v_if_lt o 118 dX4_readRoot_94 (by decide) (fun c20 => ?_) (fun c20 => ?_)
          · replace h := z_ip c20 h
            obtain rfl := z_some h
            refine v_sub [] rfl ?_
            exact hk
          · replace h := z_in c20 h
            refine v_aload_n o dX4_readRoot_97 rfl 1 rfl ?_
            refine gt_4_8 o hK0 ln_1_198 (by rw [n8]; decide) dX4_readRoot_98 ?_
            refine v_iload_n o dX4_readRoot_101 rfl 4 rfl ?_
            obtain ⟨n21, n22, h⟩ := z_gA_of h
            refine v_iald o n21 n22 dX4_readRoot_102 ?_
            refine v_iconst o (1 : Int32) dX4_readRoot_103 (by decide) ?_
            refine v_icmp_lt o 118 dX4_readRoot_104 (by decide) (fun c23 => ?_) (fun c23 => ?_)
            · replace h := z_ip c23 h
              obtain rfl := z_some h
              refine v_sub [] rfl ?_
              exact hk
            · replace h := z_in c23 h
              refine v_aload_n o dX4_readRoot_107 rfl 1 rfl ?_
              refine gt_4_8 o hK0 ln_1_198 (by rw [n8]; decide) dX4_readRoot_108 ?_
              refine v_iload_n o dX4_readRoot_111 rfl 4 rfl ?_
              obtain ⟨n24, n25, h⟩ := z_gA_of h
              refine v_iald o n24 n25 dX4_readRoot_112 ?_
              refine v_iload o dX4_readRoot_113 0 rfl ?_
              refine v_icmp_le o 120 dX4_readRoot_115 (by decide) (fun c26 => ?_) (fun c26 => ?_)
              · replace h := z_ip c26 h
                refine v_iload_n o dX4_readRoot_120 rfl 2 rfl ?_
                refine v_iconst o (2 : Int32) dX4_readRoot_121 (by decide) ?_
                refine v_iload o dX4_readRoot_122 0 rfl ?_
                refine v_iadd o dX4_readRoot_124 ?_
                refine v_iadd o dX4_readRoot_125 ?_
                refine v_istore_n o [(1, .int (a1 + ((2 : Int32) + r5))), (4, .int r5), (0, .ref (z_w q a0)), (2, .int a2), (3, .int a3)] dX4_readRoot_126 rfl (by decide) rfl ?_
                refine v_iinc o (a3 + (1 : Int32)) [(3, .int (a3 + (1 : Int32))), (1, .int (a1 + ((2 : Int32) + r5))), (4, .int r5), (0, .ref (z_w q a0)), (2, .int a2)] dX4_readRoot_127 4 rfl rfl (by decide) rfl ?_
                refine v_goto o 12 dX4_readRoot_130 (by decide) ?_
                obtain rfl := z_some h
                refine v_sub [3, 1, 4, 0] rfl ?_
                exact hk
              · replace h := z_in c26 h
                obtain rfl := z_some h
                refine v_sub [] rfl ?_
                exact hk
        · replace h := z_in c7 h
          obtain rfl := z_some h
          refine v_sub [] rfl ?_
          exact hk
    · replace h := z_in c2 h
      obtain rfl := z_some h
      refine v_sub [] rfl ?_
      exact hk
def f_X4_readRoot (G : z_G) (D : z_D) (a0 : Nat) : Option (Int32 × z_D) :=
  ((z_loop (fun v => c_X4_readRoot_12 G v.1 a0 ((3 : Int32) + (z_I D 406 a0)) v.2.1 v.2.2) 4000 (D, (9 : Int32), (0 : Int32))).bind (Sum.elim (fun e27 => (some ((0 : Int32), e27))) (Sum.elim (fun e27 => (some ((0 : Int32), e27))) (Sum.elim (fun e27 => (some ((0 : Int32), e27))) (fun e27 => (if e27.2 = ((3 : Int32) + (z_I D 406 a0)) then (((some ((1 : Int32), e27.1)))) else ((some ((0 : Int32), e27.1)))))))))
set_option maxRecDepth 100000 in
set_option maxHeartbeats 4000000 in
theorem b_X4_readRoot {q : z_Q} {X : z_X} {G : z_G} {D : z_D} {a0 : Nat} {r : Int32} {D1 : z_D} (o : z_O q X cX4_readRoot 5 "FlashTrust$Paper" "readRoot" (some .boolean)) (hX : x_R X = z_rm 1 0 0) (hK0 : z_K G a0 = 104) (h : f_X4_readRoot G D a0 = some (r, D1)) : z_V q X 5 (z_F q X (some (.int r)) G D1 0 0) 0 0 G D 0 [(0, .ref (z_w q a0))] [] := by
  unfold f_X4_readRoot at h
  refine v_bipush o (9 : Int32) dX4_readRoot_0 (by decide) ?_
  refine v_istore_n o [(1, .int (9 : Int32)), (0, .ref (z_w q a0))] dX4_readRoot_2 rfl (by decide) rfl ?_
  refine v_iconst o (3 : Int32) dX4_readRoot_3 (by decide) ?_
  refine v_aload_n o dX4_readRoot_4 rfl 1 rfl ?_
  refine gt_4_6 o hK0 ln_1_195 dX4_readRoot_5 ?_
  refine v_iadd o dX4_readRoot_8 ?_
  refine v_istore_n o [(2, .int ((3 : Int32) + (z_I D 406 a0))), (1, .int (9 : Int32)), (0, .ref (z_w q a0))] dX4_readRoot_9 rfl (by decide) rfl ?_
  refine v_iconst o (0 : Int32) dX4_readRoot_10 (by decide) ?_
  refine v_istore_n o [(3, .int (0 : Int32)), (2, .int ((3 : Int32) + (z_I D 406 a0))), (1, .int (9 : Int32)), (0, .ref (z_w q a0))] dX4_readRoot_11 rfl (by decide) rfl ?_
  refine v_sub [3, 2, 1, 0] rfl ?_
  obtain ⟨e27, he28, h⟩ := z_bind h
  refine z_loopV (P := p_X4_readRoot_12 q X _ G a0 ((3 : Int32) + (z_I D 406 a0))) (E := x_X4_readRoot_12 q X _ G a0 ((3 : Int32) + (z_I D 406 a0))) (fun v ρ hb hk => tc_X4_readRoot_12 (D := v.1) (a0 := a0) (a1 := v.2.1) (a2 := ((3 : Int32) + (z_I D 406 a0))) (a3 := v.2.2) o hX hK0 hb hk) 4000 _ e27 he28 ?_
  rcases e27 with e27 | e27
  · replace h := z_el h
    show z_V q X 5 _ _ _ G e27 24 [] []
    refine v_iconst o (0 : Int32) dX4_readRoot_24 (by decide) ?_
    obtain ⟨hr, hs⟩ := Prod.mk.inj (z_some h)
    subst hr
    subst hs
    exact v_zreturn o (by decide) dX4_readRoot_25
  · replace h := z_er h
    rcases e27 with e27 | e27
    · replace h := z_el h
      show z_V q X 5 _ _ _ G e27 54 [] []
      refine v_iconst o (0 : Int32) dX4_readRoot_54 (by decide) ?_
      obtain ⟨hr, hs⟩ := Prod.mk.inj (z_some h)
      subst hr
      subst hs
      exact v_zreturn o (by decide) dX4_readRoot_55
    · replace h := z_er h
      rcases e27 with e27 | e27
      · replace h := z_el h
        show z_V q X 5 _ _ _ G e27 118 [] []
        refine v_iconst o (0 : Int32) dX4_readRoot_118 (by decide) ?_
        obtain ⟨hr, hs⟩ := Prod.mk.inj (z_some h)
        subst hr
        subst hs
        exact v_zreturn o (by decide) dX4_readRoot_119
      · replace h := z_er h
        show z_V q X 5 _ _ _ G e27.1 133 [(1, .int e27.2), (2, .int ((3 : Int32) + (z_I D 406 a0)))] []
        refine v_iload_n o dX4_readRoot_133 rfl 0 rfl ?_
        refine v_iload_n o dX4_readRoot_134 rfl 1 rfl ?_
        refine v_icmp_ne o 142 dX4_readRoot_135 (by decide) (fun c29 => ?_) (fun c29 => ?_)
        · replace h := z_in c29 h
          refine v_iconst o (0 : Int32) dX4_readRoot_142 (by decide) ?_
          obtain ⟨hr, hs⟩ := Prod.mk.inj (z_some h)
          subst hr
          subst hs
          exact v_zreturn o (by decide) dX4_readRoot_143
        · replace h := z_ip c29 h
          refine v_iconst o (1 : Int32) dX4_readRoot_138 (by decide) ?_
          refine v_goto o 143 dX4_readRoot_139 (by decide) ?_
          obtain ⟨hr, hs⟩ := Prod.mk.inj (z_some h)
          subst hr
          subst hs
          exact v_zreturn o (by decide) dX4_readRoot_143
theorem e_X4_readRoot {q : z_Q} {l : Launch} {G : z_G} {D : z_D} {a0 : Nat} {r : Int32} {D1 : z_D} (hK0 : z_K G a0 = 104) (h : f_X4_readRoot G D a0 = some (r, D1)) : z_E q l yX4_readRoot cX4_readRoot 5 (some .boolean) 1 0 0 [.ref (z_w q a0)] G D (some (.int r)) G D1 :=
  z_E.of (by decide) (Nat.le_of_ble_eq_true rfl) (fun X hX _ o => b_X4_readRoot o hX hK0 h)
def f_X4_readTold (G : z_G) (D : z_D) (a0 : Nat) : Option (Int32 × z_D) :=
  (if (z_I D 406 a0) = (16 : Int32) then (z_gK G 105 (z_R G 400 a0) ((f_X5_number G D (z_R G 400 a0) (9 : Int32) (2 : Int32)).bind (fun r4 => ((f_X5_number G (z_sI D 409 a0 ((r4).toInt32)) (z_R G 400 a0) (11 : Int32) (8 : Int32)).bind (fun r6 => ((if (z_I (z_sJ (z_sI D 409 a0 ((r4).toInt32)) 410 a0 r6) 409 a0) ≤ (0 : Int32) then ((some ((0 : Int32), (z_sJ (z_sI D 409 a0 ((r4).toInt32)) 410 a0 r6)))) else (((some ((1 : Int32), (z_sJ (z_sI D 409 a0 ((r4).toInt32)) 410 a0 r6)))))))))))) else ((some ((0 : Int32), D))))
set_option maxRecDepth 100000 in
set_option maxHeartbeats 4000000 in
theorem b_X4_readTold {q : z_Q} {X : z_X} {G : z_G} {D : z_D} {a0 : Nat} {r : Int32} {D1 : z_D} (o : z_O q X cX4_readTold 1 "FlashTrust$Paper" "readTold" (some .boolean)) (hX : x_R X = z_rm 1 0 0) (hK0 : z_K G a0 = 104) (h : f_X4_readTold G D a0 = some (r, D1)) : z_V q X 1 (z_F q X (some (.int r)) G D1 0 0) 0 0 G D 0 [(0, .ref (z_w q a0))] [] := by
  unfold f_X4_readTold at h
  refine v_aload_n o dX4_readTold_0 rfl 0 rfl ?_
  refine gt_4_6 o hK0 ln_1_195 dX4_readTold_1 ?_
  refine v_bipush o (16 : Int32) dX4_readTold_4 (by decide) ?_
  refine v_icmp_eq o 11 dX4_readTold_6 (by decide) (fun c1 => ?_) (fun c1 => ?_)
  · replace h := z_ip c1 h
    refine v_aload_n o dX4_readTold_11 rfl 0 rfl ?_
    refine v_aload_n o dX4_readTold_12 rfl 0 rfl ?_
    obtain ⟨n2, h⟩ := z_gK_of h
    refine gt_4_0 o hK0 ln_1_182 (by rw [n2]; decide) dX4_readTold_13 ?_
    refine v_bipush o (9 : Int32) dX4_readTold_16 (by decide) ?_
    refine v_iconst o (2 : Int32) dX4_readTold_18 (by decide) ?_
    obtain ⟨r4, he3, h⟩ := z_bind h
    refine v_callV o yw_X5_number ln_3_237 wi_X5_number ws_X5_number hX (by decide) 5 rfl n2 (As := [.int (9 : Int32), .int (2 : Int32)]) rfl rfl (Nat.le_of_ble_eq_true rfl) (e_X5_number n2 he3) dX4_readTold_19 ?_
    refine v_l2i o dX4_readTold_22 ?_
    refine pt_4_9 o hK0 ln_1_200 dX4_readTold_23 ?_
    refine v_aload_n o dX4_readTold_26 rfl 0 rfl ?_
    refine v_aload_n o dX4_readTold_27 rfl 0 rfl ?_
    refine gt_4_0 o hK0 ln_1_182 (by rw [n2]; decide) dX4_readTold_28 ?_
    refine v_bipush o (11 : Int32) dX4_readTold_31 (by decide) ?_
    refine v_bipush o (8 : Int32) dX4_readTold_33 (by decide) ?_
    obtain ⟨r6, he5, h⟩ := z_bind h
    refine v_callV o yw_X5_number ln_3_237 wi_X5_number ws_X5_number hX (by decide) 5 rfl n2 (As := [.int (11 : Int32), .int (8 : Int32)]) rfl rfl (Nat.le_of_ble_eq_true rfl) (e_X5_number n2 he5) dX4_readTold_35 ?_
    refine pt_4_10 o hK0 ln_1_202 dX4_readTold_38 ?_
    refine v_aload_n o dX4_readTold_41 rfl 0 rfl ?_
    refine gt_4_9 o hK0 ln_1_200 dX4_readTold_42 ?_
    refine v_if_le o 52 dX4_readTold_45 (by decide) (fun c7 => ?_) (fun c7 => ?_)
    · replace h := z_ip c7 h
      refine v_iconst o (0 : Int32) dX4_readTold_52 (by decide) ?_
      obtain ⟨hr, hs⟩ := Prod.mk.inj (z_some h)
      subst hr
      subst hs
      exact v_zreturn o (by decide) dX4_readTold_53
    · replace h := z_in c7 h
      refine v_iconst o (1 : Int32) dX4_readTold_48 (by decide) ?_
      refine v_goto o 53 dX4_readTold_49 (by decide) ?_
      obtain ⟨hr, hs⟩ := Prod.mk.inj (z_some h)
      subst hr
      subst hs
      exact v_zreturn o (by decide) dX4_readTold_53
  · replace h := z_in c1 h
    refine v_iconst o (0 : Int32) dX4_readTold_9 (by decide) ?_
    obtain ⟨hr, hs⟩ := Prod.mk.inj (z_some h)
    subst hr
    subst hs
    exact v_zreturn o (by decide) dX4_readTold_10
theorem e_X4_readTold {q : z_Q} {l : Launch} {G : z_G} {D : z_D} {a0 : Nat} {r : Int32} {D1 : z_D} (hK0 : z_K G a0 = 104) (h : f_X4_readTold G D a0 = some (r, D1)) : z_E q l yX4_readTold cX4_readTold 1 (some .boolean) 1 0 0 [.ref (z_w q a0)] G D (some (.int r)) G D1 :=
  z_E.of (by decide) (Nat.le_of_ble_eq_true rfl) (fun X hX _ o => b_X4_readTold o hX hK0 h)
def p_X4_readImages_64 (q : z_Q) (X : z_X) (Q : State → Prop) (G : z_G) (a0 : Nat) : (z_D × Int32 × Int32) → Prop := (fun v => z_V q X 4 Q 0 0 G v.1 64 [(0, .ref (z_w q a0)), (1, .int v.2.1), (2, .int v.2.2)] [])
def x_X4_readImages_64 (q : z_Q) (X : z_X) (Q : State → Prop) (G : z_G) (a0 : Nat) : (z_D ⊕ z_D) → Prop := (Sum.elim (fun v => z_V q X 4 Q 0 0 G v 164 [] []) (fun v => z_V q X 4 Q 0 0 G v 179 [] []))
def k_X4_readImages_64 (q : z_Q) (X : z_X) (Q : State → Prop) (G : z_G) (a0 : Nat) : (z_D × Int32 × Int32) ⊕ (z_D ⊕ z_D) → Prop := Sum.elim (p_X4_readImages_64 q X Q G a0) (x_X4_readImages_64 q X Q G a0)
def c_X4_readImages_64 (G : z_G) (D : z_D) (a0 : Nat) (a1 : Int32) (a2 : Int32) : Option ((z_D × Int32 × Int32) ⊕ (z_D ⊕ z_D)) :=
  (if (z_I D 411 a0) ≤ a2 then (some (.inr (.inr D))) else (z_gK G 1 (z_R G 412 a0) (z_gK G 105 (z_R G 400 a0) ((f_X5_number G D (z_R G 400 a0) ((10 : Int32) + (a2 * (12 : Int32))) (2 : Int32)).bind (fun r10 => (z_gA G 1 (z_R G 412 a0) a2 (z_gK G 1 (z_R G 413 a0) ((f_X5_number G (z_sU D (z_R G 412 a0) (a2).toNatClampNeg ((r10).toInt32)) (z_R G 400 a0) (((10 : Int32) + (a2 * (12 : Int32))) + (2 : Int32)) (2 : Int32)).bind (fun r15 => (z_gA G 1 (z_R G 413 a0) a2 (z_gK G 2 (z_R G 414 a0) ((f_X5_number G (z_sU (z_sU D (z_R G 412 a0) (a2).toNatClampNeg ((r10).toInt32)) (z_R G 413 a0) (a2).toNatClampNeg ((r15).toInt32)) (z_R G 400 a0) (((10 : Int32) + (a2 * (12 : Int32))) + (4 : Int32)) (8 : Int32)).bind (fun r20 => (z_gA G 2 (z_R G 414 a0) a2 (z_gA G 1 (z_R G 412 a0) a2 ((if (z_U (z_sY (z_sU (z_sU D (z_R G 412 a0) (a2).toNatClampNeg ((r10).toInt32)) (z_R G 413 a0) (a2).toNatClampNeg ((r15).toInt32)) (z_R G 414 a0) (a2).toNatClampNeg r20) (z_R G 412 a0) (a2).toNatClampNeg) ≤ a1 then (some (.inr (.inl (z_sY (z_sU (z_sU D (z_R G 412 a0) (a2).toNatClampNeg ((r10).toInt32)) (z_R G 413 a0) (a2).toNatClampNeg ((r15).toInt32)) (z_R G 414 a0) (a2).toNatClampNeg r20)))) else (z_gA G 1 (z_R G 413 a0) a2 ((if (z_U (z_sY (z_sU (z_sU D (z_R G 412 a0) (a2).toNatClampNeg ((r10).toInt32)) (z_R G 413 a0) (a2).toNatClampNeg ((r15).toInt32)) (z_R G 414 a0) (a2).toNatClampNeg r20) (z_R G 413 a0) (a2).toNatClampNeg) < (1 : Int32) then (some (.inr (.inl (z_sY (z_sU (z_sU D (z_R G 412 a0) (a2).toNatClampNeg ((r10).toInt32)) (z_R G 413 a0) (a2).toNatClampNeg ((r15).toInt32)) (z_R G 414 a0) (a2).toNatClampNeg r20)))) else (z_gA G 1 (z_R G 413 a0) a2 ((if (z_U (z_sY (z_sU (z_sU D (z_R G 412 a0) (a2).toNatClampNeg ((r10).toInt32)) (z_R G 413 a0) (a2).toNatClampNeg ((r15).toInt32)) (z_R G 414 a0) (a2).toNatClampNeg r20) (z_R G 413 a0) (a2).toNatClampNeg) ≤ (1024 : Int32) then (z_gA G 1 (z_R G 412 a0) a2 ((some (.inl ((z_sY (z_sU (z_sU D (z_R G 412 a0) (a2).toNatClampNeg ((r10).toInt32)) (z_R G 413 a0) (a2).toNatClampNeg ((r15).toInt32)) (z_R G 414 a0) (a2).toNatClampNeg r20), (z_U (z_sY (z_sU (z_sU D (z_R G 412 a0) (a2).toNatClampNeg ((r10).toInt32)) (z_R G 413 a0) (a2).toNatClampNeg ((r15).toInt32)) (z_R G 414 a0) (a2).toNatClampNeg r20) (z_R G 412 a0) (a2).toNatClampNeg), (a2 + (1 : Int32))))))) else (some (.inr (.inl (z_sY (z_sU (z_sU D (z_R G 412 a0) (a2).toNatClampNeg ((r10).toInt32)) (z_R G 413 a0) (a2).toNatClampNeg ((r15).toInt32)) (z_R G 414 a0) (a2).toNatClampNeg r20)))))))))))))))))))))))))))
set_option maxRecDepth 100000 in
set_option maxHeartbeats 4000000 in
theorem tc_X4_readImages_64 {q : z_Q} {X : z_X} {G : z_G} {D : z_D} {Q : State → Prop} {a0 : Nat} {a1 : Int32} {a2 : Int32} (o : z_O q X cX4_readImages 4 "FlashTrust$Paper" "readImages" (some .boolean)) (hX : x_R X = z_rm 1 0 0) (hK0 : z_K G a0 = 104) {ρ : (z_D × Int32 × Int32) ⊕ (z_D ⊕ z_D)} (h : c_X4_readImages_64 G D a0 a1 a2 = some ρ) (hk : k_X4_readImages_64 q X Q G a0 ρ) : z_V q X 4 Q 0 0 G D 64 [(0, .ref (z_w q a0)), (1, .int a1), (2, .int a2)] [] := by
  unfold c_X4_readImages_64 at h
  refine v_iload_n o dX4_readImages_64 rfl 2 rfl ?_
  refine v_aload_n o dX4_readImages_65 rfl 0 rfl ?_
  refine gt_4_11 o hK0 ln_1_204 dX4_readImages_66 ?_
  refine v_icmp_ge o 179 dX4_readImages_69 (by decide) (fun c6 => ?_) (fun c6 => ?_)
  · replace h := z_ip c6 h
    obtain rfl := z_some h
    refine v_sub [] rfl ?_
    exact hk
  · replace h := z_in c6 h
    refine v_bipush o (10 : Int32) dX4_readImages_72 (by decide) ?_
    refine v_iload_n o dX4_readImages_74 rfl 2 rfl ?_
    refine v_bipush o (12 : Int32) dX4_readImages_75 (by decide) ?_
    refine v_imul o dX4_readImages_77 ?_
    refine v_iadd o dX4_readImages_78 ?_
    refine v_istore_n o [(3, .int ((10 : Int32) + (a2 * (12 : Int32)))), (0, .ref (z_w q a0)), (1, .int a1), (2, .int a2)] dX4_readImages_79 rfl (by decide) rfl ?_
    refine v_aload_n o dX4_readImages_80 rfl 1 rfl ?_
    obtain ⟨n7, h⟩ := z_gK_of h
    refine gt_4_12 o hK0 ln_1_206 (by rw [n7]; decide) dX4_readImages_81 ?_
    refine v_iload_n o dX4_readImages_84 rfl 3 rfl ?_
    refine v_aload_n o dX4_readImages_85 rfl 1 rfl ?_
    obtain ⟨n8, h⟩ := z_gK_of h
    refine gt_4_0 o hK0 ln_1_182 (by rw [n8]; decide) dX4_readImages_86 ?_
    refine v_iload_n o dX4_readImages_89 rfl 0 rfl ?_
    refine v_iconst o (2 : Int32) dX4_readImages_90 (by decide) ?_
    obtain ⟨r10, he9, h⟩ := z_bind h
    refine v_callV o yw_X5_number ln_3_237 wi_X5_number ws_X5_number hX (by decide) 5 rfl n8 (As := [.int ((10 : Int32) + (a2 * (12 : Int32))), .int (2 : Int32)]) rfl rfl (Nat.le_of_ble_eq_true rfl) (e_X5_number n8 he9) dX4_readImages_91 ?_
    refine v_l2i o dX4_readImages_94 ?_
    obtain ⟨n11, n12, h⟩ := z_gA_of h
    refine v_iast o n11 n12 dX4_readImages_95 ?_
    refine v_aload_n o dX4_readImages_96 rfl 1 rfl ?_
    obtain ⟨n13, h⟩ := z_gK_of h
    refine gt_4_13 o hK0 ln_1_208 (by rw [n13]; decide) dX4_readImages_97 ?_
    refine v_iload_n o dX4_readImages_100 rfl 3 rfl ?_
    refine v_aload_n o dX4_readImages_101 rfl 1 rfl ?_
    refine gt_4_0 o hK0 ln_1_182 (by rw [n8]; decide) dX4_readImages_102 ?_
    refine v_iload_n o dX4_readImages_105 rfl 0 rfl ?_
    refine v_iconst o (2 : Int32) dX4_readImages_106 (by decide) ?_
    refine v_iadd o dX4_readImages_107 ?_
    refine v_iconst o (2 : Int32) dX4_readImages_108 (by decide) ?_
    obtain ⟨r15, he14, h⟩ := z_bind h
    refine v_callV o yw_X5_number ln_3_237 wi_X5_number ws_X5_number hX (by decide) 5 rfl n8 (As := [.int (((10 : Int32) + (a2 * (12 : Int32))) + (2 : Int32)), .int (2 : Int32)]) rfl rfl (Nat.le_of_ble_eq_true rfl) (e_X5_number n8 he14) dX4_readImages_109 ?_
    refine v_l2i o dX4_readImages_112 ?_
    obtain ⟨n16, n17, h⟩ := z_gA_of h
    refine v_iast o n16 n17 dX4_readImages_113 ?_
    refine v_aload_n o dX4_readImages_114 rfl 1 rfl ?_
    obtain ⟨n18, h⟩ := z_gK_of h
    refine gt_4_14 o hK0 ln_1_210 (by rw [n18]; decide) dX4_readImages_115 ?_
    refine v_iload_n o dX4_readImages_118 rfl 3 rfl ?_
    refine v_aload_n o dX4_readImages_119 rfl 1 rfl ?_
    refine gt_4_0 o hK0 ln_1_182 (by rw [n8]; decide) dX4_readImages_120 ?_
    refine v_iload_n o dX4_readImages_123 rfl 0 rfl ?_
    refine v_iconst o (4 : Int32) dX4_readImages_124 (by decide) ?_
    refine v_iadd o dX4_readImages_125 ?_
    refine v_bipush o (8 : Int32) dX4_readImages_126 (by decide) ?_
    obtain ⟨r20, he19, h⟩ := z_bind h
    refine v_callV o yw_X5_number ln_3_237 wi_X5_number ws_X5_number hX (by decide) 5 rfl n8 (As := [.int (((10 : Int32) + (a2 * (12 : Int32))) + (4 : Int32)), .int (8 : Int32)]) rfl rfl (Nat.le_of_ble_eq_true rfl) (e_X5_number n8 he19) dX4_readImages_128 ?_
    obtain ⟨n21, n22, h⟩ := z_gA_of h
    refine v_last o n21 n22 dX4_readImages_131 ?_
    refine v_aload_n o dX4_readImages_132 rfl 1 rfl ?_
    refine gt_4_12 o hK0 ln_1_206 (by rw [n7]; decide) dX4_readImages_133 ?_
    refine v_iload_n o dX4_readImages_136 rfl 3 rfl ?_
    obtain ⟨n23, n24, h⟩ := z_gA_of h
    refine v_iald o n23 n24 dX4_readImages_137 ?_
    refine v_iload_n o dX4_readImages_138 rfl 2 rfl ?_
    refine v_icmp_le o 164 dX4_readImages_139 (by decide) (fun c25 => ?_) (fun c25 => ?_)
    · replace h := z_ip c25 h
      obtain rfl := z_some h
      refine v_sub [] rfl ?_
      exact hk
    · replace h := z_in c25 h
      refine v_aload_n o dX4_readImages_142 rfl 1 rfl ?_
      refine gt_4_13 o hK0 ln_1_208 (by rw [n13]; decide) dX4_readImages_143 ?_
      refine v_iload_n o dX4_readImages_146 rfl 3 rfl ?_
      obtain ⟨n26, n27, h⟩ := z_gA_of h
      refine v_iald o n26 n27 dX4_readImages_147 ?_
      refine v_iconst o (1 : Int32) dX4_readImages_148 (by decide) ?_
      refine v_icmp_lt o 164 dX4_readImages_149 (by decide) (fun c28 => ?_) (fun c28 => ?_)
      · replace h := z_ip c28 h
        obtain rfl := z_some h
        refine v_sub [] rfl ?_
        exact hk
      · replace h := z_in c28 h
        refine v_aload_n o dX4_readImages_152 rfl 1 rfl ?_
        refine gt_4_13 o hK0 ln_1_208 (by rw [n13]; decide) dX4_readImages_153 ?_
        refine v_iload_n o dX4_readImages_156 rfl 3 rfl ?_
        obtain ⟨n29, n30, h⟩ := z_gA_of h
        refine v_iald o n29 n30 dX4_readImages_157 ?_
        refine v_sipush o (1024 : Int32) dX4_readImages_158 (by decide) ?_
        refine v_icmp_le o 166 dX4_readImages_161 (by decide) (fun c31 => ?_) (fun c31 => ?_)
        · replace h := z_ip c31 h
          refine v_aload_n o dX4_readImages_166 rfl 1 rfl ?_
          refine gt_4_12 o hK0 ln_1_206 (by rw [n7]; decide) dX4_readImages_167 ?_
          refine v_iload_n o dX4_readImages_170 rfl 3 rfl ?_
          obtain ⟨n32, n33, h⟩ := z_gA_of h
          refine v_iald o n32 n33 dX4_readImages_171 ?_
          refine v_istore_n o [(1, .int (z_U (z_sY (z_sU (z_sU D (z_R G 412 a0) (a2).toNatClampNeg ((r10).toInt32)) (z_R G 413 a0) (a2).toNatClampNeg ((r15).toInt32)) (z_R G 414 a0) (a2).toNatClampNeg r20) (z_R G 412 a0) (a2).toNatClampNeg)), (3, .int ((10 : Int32) + (a2 * (12 : Int32)))), (0, .ref (z_w q a0)), (2, .int a2)] dX4_readImages_172 rfl (by decide) rfl ?_
          refine v_iinc o (a2 + (1 : Int32)) [(2, .int (a2 + (1 : Int32))), (1, .int (z_U (z_sY (z_sU (z_sU D (z_R G 412 a0) (a2).toNatClampNeg ((r10).toInt32)) (z_R G 413 a0) (a2).toNatClampNeg ((r15).toInt32)) (z_R G 414 a0) (a2).toNatClampNeg r20) (z_R G 412 a0) (a2).toNatClampNeg)), (3, .int ((10 : Int32) + (a2 * (12 : Int32)))), (0, .ref (z_w q a0))] dX4_readImages_173 3 rfl rfl (by decide) rfl ?_
          refine v_goto o 64 dX4_readImages_176 (by decide) ?_
          obtain rfl := z_some h
          refine v_sub [3, 1, 0] rfl ?_
          exact hk
        · replace h := z_in c31 h
          obtain rfl := z_some h
          refine v_sub [] rfl ?_
          exact hk
def j_X4_readImages_23 (G : z_G) (D : z_D) (a0 : Nat) (s0 : Int32) (s1 : Nat) : Option (Int32 × z_D) :=
  z_gK G 104 s1 ((if (z_I (z_sI D 411 s1 s0) 411 a0) < (0 : Int32) then ((some ((0 : Int32), (z_sI D 411 s1 s0)))) else ((if (4 : Int32) < (z_I (z_sI D 411 s1 s0) 411 a0) then ((some ((0 : Int32), (z_sI D 411 s1 s0)))) else ((if (z_I (z_sI D 411 s1 s0) 406 a0) = ((7 : Int32) + ((z_I (z_sI D 411 s1 s0) 411 a0) * (12 : Int32))) then (((z_loop (fun v => c_X4_readImages_64 G v.1 a0 v.2.1 v.2.2) 4000 ((z_sI D 411 s1 s0), (0 : Int32), (0 : Int32))).bind (Sum.elim (fun e34 => (some ((0 : Int32), e34))) (fun e34 => (some ((1 : Int32), e34)))))) else ((some ((0 : Int32), (z_sI D 411 s1 s0))))))))))
set_option maxRecDepth 100000 in
set_option maxHeartbeats 4000000 in
theorem tj_X4_readImages_23 {q : z_Q} {X : z_X} {G : z_G} {D : z_D} {a0 : Nat} {s0 : Int32} {s1 : Nat} {r : Int32} {D1 : z_D} (o : z_O q X cX4_readImages 4 "FlashTrust$Paper" "readImages" (some .boolean)) (hX : x_R X = z_rm 1 0 0) (hK0 : z_K G a0 = 104) (h : j_X4_readImages_23 G D a0 s0 s1 = some (r, D1)) : z_V q X 4 (z_F q X (some (.int r)) G D1 0 0) 0 0 G D 23 [(0, .ref (z_w q a0))] [.int s0, .ref (z_w q s1)] := by
  unfold j_X4_readImages_23 at h
  obtain ⟨n2, h⟩ := z_gK_of h
  refine pt_4_11 o n2 ln_1_204 dX4_readImages_23 ?_
  refine v_aload_n o dX4_readImages_26 rfl 0 rfl ?_
  refine gt_4_11 o hK0 ln_1_204 dX4_readImages_27 ?_
  refine v_if_lt o 58 dX4_readImages_30 (by decide) (fun c3 => ?_) (fun c3 => ?_)
  · replace h := z_ip c3 h
    refine v_iconst o (0 : Int32) dX4_readImages_58 (by decide) ?_
    obtain ⟨hr, hs⟩ := Prod.mk.inj (z_some h)
    subst hr
    subst hs
    exact v_zreturn o (by decide) dX4_readImages_59
  · replace h := z_in c3 h
    refine v_aload_n o dX4_readImages_33 rfl 0 rfl ?_
    refine gt_4_11 o hK0 ln_1_204 dX4_readImages_34 ?_
    refine v_iconst o (4 : Int32) dX4_readImages_37 (by decide) ?_
    refine v_icmp_gt o 58 dX4_readImages_38 (by decide) (fun c4 => ?_) (fun c4 => ?_)
    · replace h := z_ip c4 h
      refine v_iconst o (0 : Int32) dX4_readImages_58 (by decide) ?_
      obtain ⟨hr, hs⟩ := Prod.mk.inj (z_some h)
      subst hr
      subst hs
      exact v_zreturn o (by decide) dX4_readImages_59
    · replace h := z_in c4 h
      refine v_aload_n o dX4_readImages_41 rfl 0 rfl ?_
      refine gt_4_6 o hK0 ln_1_195 dX4_readImages_42 ?_
      refine v_bipush o (7 : Int32) dX4_readImages_45 (by decide) ?_
      refine v_aload_n o dX4_readImages_47 rfl 0 rfl ?_
      refine gt_4_11 o hK0 ln_1_204 dX4_readImages_48 ?_
      refine v_bipush o (12 : Int32) dX4_readImages_51 (by decide) ?_
      refine v_imul o dX4_readImages_53 ?_
      refine v_iadd o dX4_readImages_54 ?_
      refine v_icmp_eq o 60 dX4_readImages_55 (by decide) (fun c5 => ?_) (fun c5 => ?_)
      · replace h := z_ip c5 h
        refine v_iconst o (0 : Int32) dX4_readImages_60 (by decide) ?_
        refine v_istore_n o [(1, .int (0 : Int32)), (0, .ref (z_w q a0))] dX4_readImages_61 rfl (by decide) rfl ?_
        refine v_iconst o (0 : Int32) dX4_readImages_62 (by decide) ?_
        refine v_istore_n o [(2, .int (0 : Int32)), (1, .int (0 : Int32)), (0, .ref (z_w q a0))] dX4_readImages_63 rfl (by decide) rfl ?_
        refine v_sub [2, 1, 0] rfl ?_
        obtain ⟨e34, he35, h⟩ := z_bind h
        refine z_loopV (P := p_X4_readImages_64 q X _ G a0) (E := x_X4_readImages_64 q X _ G a0) (fun v ρ hb hk => tc_X4_readImages_64 (D := v.1) (a0 := a0) (a1 := v.2.1) (a2 := v.2.2) o hX hK0 hb hk) 4000 _ e34 he35 ?_
        rcases e34 with e34 | e34
        · replace h := z_el h
          show z_V q X 4 _ _ _ G e34 164 [] []
          refine v_iconst o (0 : Int32) dX4_readImages_164 (by decide) ?_
          obtain ⟨hr, hs⟩ := Prod.mk.inj (z_some h)
          subst hr
          subst hs
          exact v_zreturn o (by decide) dX4_readImages_165
        · replace h := z_er h
          show z_V q X 4 _ _ _ G e34 179 [] []
          refine v_iconst o (1 : Int32) dX4_readImages_179 (by decide) ?_
          obtain ⟨hr, hs⟩ := Prod.mk.inj (z_some h)
          subst hr
          subst hs
          exact v_zreturn o (by decide) dX4_readImages_180
      · replace h := z_in c5 h
        refine v_iconst o (0 : Int32) dX4_readImages_58 (by decide) ?_
        obtain ⟨hr, hs⟩ := Prod.mk.inj (z_some h)
        subst hr
        subst hs
        exact v_zreturn o (by decide) dX4_readImages_59
def f_X4_readImages (G : z_G) (D : z_D) (a0 : Nat) : Option (Int32 × z_D) :=
  (if (z_I D 406 a0) ≤ (6 : Int32) then ((j_X4_readImages_23 G D  a0 (-1 : Int32) a0)) else (z_gK G 105 (z_R G 400 a0) ((f_X5_at G D (z_R G 400 a0) (9 : Int32)).bind (fun r38 => ((j_X4_readImages_23 G D  a0 r38 a0))))))
set_option maxRecDepth 100000 in
set_option maxHeartbeats 4000000 in
theorem b_X4_readImages {q : z_Q} {X : z_X} {G : z_G} {D : z_D} {a0 : Nat} {r : Int32} {D1 : z_D} (o : z_O q X cX4_readImages 4 "FlashTrust$Paper" "readImages" (some .boolean)) (hX : x_R X = z_rm 1 0 0) (hK0 : z_K G a0 = 104) (h : f_X4_readImages G D a0 = some (r, D1)) : z_V q X 4 (z_F q X (some (.int r)) G D1 0 0) 0 0 G D 0 [(0, .ref (z_w q a0))] [] := by
  unfold f_X4_readImages at h
  refine v_aload_n o dX4_readImages_0 rfl 0 rfl ?_
  refine v_aload_n o dX4_readImages_1 rfl 0 rfl ?_
  refine gt_4_6 o hK0 ln_1_195 dX4_readImages_2 ?_
  refine v_bipush o (6 : Int32) dX4_readImages_5 (by decide) ?_
  refine v_icmp_le o 22 dX4_readImages_7 (by decide) (fun c1 => ?_) (fun c1 => ?_)
  · replace h := z_ip c1 h
    refine v_iconst o (-1 : Int32) dX4_readImages_22 (by decide) ?_
    exact tj_X4_readImages_23 o hX hK0 h
  · replace h := z_in c1 h
    refine v_aload_n o dX4_readImages_10 rfl 0 rfl ?_
    obtain ⟨n36, h⟩ := z_gK_of h
    refine gt_4_0 o hK0 ln_1_182 (by rw [n36]; decide) dX4_readImages_11 ?_
    refine v_bipush o (9 : Int32) dX4_readImages_14 (by decide) ?_
    obtain ⟨r38, he37, h⟩ := z_bind h
    refine v_callV o yw_X5_at ln_3_236 wi_X5_at ws_X5_at hX (by decide) 5 rfl n36 (As := [.int (9 : Int32)]) rfl rfl (Nat.le_of_ble_eq_true rfl) (e_X5_at n36 he37) dX4_readImages_16 ?_
    refine v_goto o 23 dX4_readImages_19 (by decide) ?_
    exact tj_X4_readImages_23 o hX hK0 h
theorem e_X4_readImages {q : z_Q} {l : Launch} {G : z_G} {D : z_D} {a0 : Nat} {r : Int32} {D1 : z_D} (hK0 : z_K G a0 = 104) (h : f_X4_readImages G D a0 = some (r, D1)) : z_E q l yX4_readImages cX4_readImages 4 (some .boolean) 1 0 0 [.ref (z_w q a0)] G D (some (.int r)) G D1 :=
  z_E.of (by decide) (Nat.le_of_ble_eq_true rfl) (fun X hX _ o => b_X4_readImages o hX hK0 h)
def f_X4_read (G : z_G) (D : z_D) (a0 : Nat) (a1 : Nat) (a2 : Int32) (a3 : Int32) : Option (Int32 × z_D) :=
  (if a3 < (10 : Int32) then ((some ((0 : Int32), D))) else ((if a3 ≤ (75 : Int32) then (z_gK G 105 (z_R G 400 a0) ((f_X5_empty G D (z_R G 400 a0)).bind (fun D5 => ((f_X5_addFrom G D5 (z_R G 400 a0) a1 a2 a3).bind (fun D7 => ((f_X5_at G D7 (z_R G 400 a0) (0 : Int32)).bind (fun r9 => ((f_X5_number G (z_sI D7 401 a0 r9) (z_R G 400 a0) (1 : Int32) (2 : Int32)).bind (fun r11 => ((f_X4_readHead G (z_sI (z_sI D7 401 a0 r9) 406 a0 ((r11).toInt32)) a0).bind (fun p13 => ((if p13.1 = (0 : Int32) then ((some ((0 : Int32), p13.2))) else ((f_X4_readKeys G p13.2 a0).bind (fun p16 => ((if p16.1 = (0 : Int32) then ((some ((0 : Int32), p16.2))) else ((f_X5_hash G p16.2 (z_R G 400 a0) (3 : Int32) (z_I p16.2 406 a0)).bind (fun r19 => ((if (z_I (z_sJ p16.2 405 a0 r19) 401 a0) = (0 : Int32) then ((f_X4_readRoot G (z_sJ p16.2 405 a0 r19) a0).bind (fun p22 => (z_gB p22.1 ((some (p22.1, p22.2)))))) else (if (z_I (z_sJ p16.2 405 a0 r19) 401 a0) = (1 : Int32) then ((f_X4_readTold G (z_sJ p16.2 405 a0 r19) a0).bind (fun p26 => (z_gB p26.1 ((some (p26.1, p26.2)))))) else (if (z_I (z_sJ p16.2 405 a0 r19) 401 a0) = (2 : Int32) then ((f_X4_readTold G (z_sJ p16.2 405 a0 r19) a0).bind (fun p30 => (z_gB p30.1 ((some (p30.1, p30.2)))))) else (if (z_I (z_sJ p16.2 405 a0 r19) 401 a0) = (3 : Int32) then ((f_X4_readImages G (z_sJ p16.2 405 a0 r19) a0).bind (fun p34 => (z_gB p34.1 ((some (p34.1, p34.2)))))) else ((some ((0 : Int32), (z_sJ p16.2 405 a0 r19)))))))))))))))))))))))))))) else ((some ((0 : Int32), D))))))
set_option maxRecDepth 100000 in
set_option maxHeartbeats 4000000 in
theorem b_X4_read {q : z_Q} {X : z_X} {G : z_G} {D : z_D} {a0 : Nat} {a1 : Nat} {a2 : Int32} {a3 : Int32} {r : Int32} {D1 : z_D} (o : z_O q X cX4_read 4 "FlashTrust$Paper" "read" (some .boolean)) (hX : x_R X = z_rm 2 0 0) (hK0 : z_K G a0 = 104) (h : f_X4_read G D a0 a1 a2 a3 = some (r, D1)) : z_V q X 4 (z_F q X (some (.int r)) G D1 0 0) 0 0 G D 0 [(0, .ref (z_w q a0)), (1, .ref (z_w q a1)), (2, .int a2), (3, .int a3)] [] := by
  unfold f_X4_read at h
  refine v_iload_n o dX4_read_0 rfl 3 rfl ?_
  refine v_bipush o (10 : Int32) dX4_read_1 (by decide) ?_
  refine v_icmp_lt o 12 dX4_read_3 (by decide) (fun c1 => ?_) (fun c1 => ?_)
  · replace h := z_ip c1 h
    refine v_iconst o (0 : Int32) dX4_read_12 (by decide) ?_
    obtain ⟨hr, hs⟩ := Prod.mk.inj (z_some h)
    subst hr
    subst hs
    exact v_zreturn o (by decide) dX4_read_13
  · replace h := z_in c1 h
    refine v_iload_n o dX4_read_6 rfl 3 rfl ?_
    refine v_bipush o (75 : Int32) dX4_read_7 (by decide) ?_
    refine v_icmp_le o 14 dX4_read_9 (by decide) (fun c2 => ?_) (fun c2 => ?_)
    · replace h := z_ip c2 h
      refine v_aload_n o dX4_read_14 rfl 0 rfl ?_
      obtain ⟨n3, h⟩ := z_gK_of h
      refine gt_4_0 o hK0 ln_1_182 (by rw [n3]; decide) dX4_read_15 ?_
      obtain ⟨D5, he4, h⟩ := z_bind h
      refine v_callV o yw_X5_empty ln_3_234 wi_X5_empty ws_X5_empty hX (by decide) 5 rfl n3 (As := []) rfl rfl (Nat.le_of_ble_eq_true rfl) (e_X5_empty n3 he4) dX4_read_18 ?_
      refine v_aload_n o dX4_read_21 rfl 0 rfl ?_
      refine gt_4_0 o hK0 ln_1_182 (by rw [n3]; decide) dX4_read_22 ?_
      refine v_aload_n o dX4_read_25 rfl 1 rfl ?_
      refine v_iload_n o dX4_read_26 rfl 2 rfl ?_
      refine v_iload_n o dX4_read_27 rfl 3 rfl ?_
      obtain ⟨D7, he6, h⟩ := z_bind h
      refine v_callV o yw_X5_addFrom ln_3_235 wi_X5_addFrom ws_X5_addFrom hX (by decide) 5 rfl n3 (As := [.ref (z_w q a1), .int a2, .int a3]) rfl rfl (Nat.le_of_ble_eq_true rfl) (e_X5_addFrom n3 he6) dX4_read_28 ?_
      refine v_aload_n o dX4_read_31 rfl 0 rfl ?_
      refine v_aload_n o dX4_read_32 rfl 0 rfl ?_
      refine gt_4_0 o hK0 ln_1_182 (by rw [n3]; decide) dX4_read_33 ?_
      refine v_iconst o (0 : Int32) dX4_read_36 (by decide) ?_
      obtain ⟨r9, he8, h⟩ := z_bind h
      refine v_callV o yw_X5_at ln_3_236 wi_X5_at ws_X5_at hX (by decide) 5 rfl n3 (As := [.int (0 : Int32)]) rfl rfl (Nat.le_of_ble_eq_true rfl) (e_X5_at n3 he8) dX4_read_37 ?_
      refine pt_4_1 o hK0 ln_1_184 dX4_read_40 ?_
      refine v_aload_n o dX4_read_43 rfl 0 rfl ?_
      refine v_aload_n o dX4_read_44 rfl 0 rfl ?_
      refine gt_4_0 o hK0 ln_1_182 (by rw [n3]; decide) dX4_read_45 ?_
      refine v_iconst o (1 : Int32) dX4_read_48 (by decide) ?_
      refine v_iconst o (2 : Int32) dX4_read_49 (by decide) ?_
      obtain ⟨r11, he10, h⟩ := z_bind h
      refine v_callV o yw_X5_number ln_3_237 wi_X5_number ws_X5_number hX (by decide) 5 rfl n3 (As := [.int (1 : Int32), .int (2 : Int32)]) rfl rfl (Nat.le_of_ble_eq_true rfl) (e_X5_number n3 he10) dX4_read_50 ?_
      refine v_l2i o dX4_read_53 ?_
      refine pt_4_6 o hK0 ln_1_195 dX4_read_54 ?_
      refine v_aload_n o dX4_read_57 rfl 0 rfl ?_
      obtain ⟨p13, he12, h⟩ := z_bind h
      refine v_callV o yw_X4_readHead ln_3_238 wi_X4_readHead ws_X4_readHead hX (by decide) 4 rfl hK0 (As := []) rfl rfl (Nat.le_of_ble_eq_true rfl) (e_X4_readHead hK0 he12) dX4_read_58 ?_
      refine v_if_eq o 71 dX4_read_61 (by decide) (fun c14 => ?_) (fun c14 => ?_)
      · replace h := z_ip c14 h
        refine v_iconst o (0 : Int32) dX4_read_71 (by decide) ?_
        obtain ⟨hr, hs⟩ := Prod.mk.inj (z_some h)
        subst hr
        subst hs
        exact v_zreturn o (by decide) dX4_read_72
      · replace h := z_in c14 h
        refine v_aload_n o dX4_read_64 rfl 0 rfl ?_
        obtain ⟨p16, he15, h⟩ := z_bind h
        refine v_callV o yw_X4_readKeys ln_4_3 wi_X4_readKeys ws_X4_readKeys hX (by decide) 4 rfl hK0 (As := []) rfl rfl (Nat.le_of_ble_eq_true rfl) (e_X4_readKeys hK0 he15) dX4_read_65 ?_
        refine v_if_ne o 73 dX4_read_68 (by decide) (fun c17 => ?_) (fun c17 => ?_)
        · replace h := z_in c17 h
          refine v_aload_n o dX4_read_73 rfl 0 rfl ?_
          refine v_aload_n o dX4_read_74 rfl 0 rfl ?_
          refine gt_4_0 o hK0 ln_1_182 (by rw [n3]; decide) dX4_read_75 ?_
          refine v_iconst o (3 : Int32) dX4_read_78 (by decide) ?_
          refine v_aload_n o dX4_read_79 rfl 0 rfl ?_
          refine gt_4_6 o hK0 ln_1_195 dX4_read_80 ?_
          obtain ⟨r19, he18, h⟩ := z_bind h
          refine v_callV o yw_X5_hash ln_4_11 wi_X5_hash ws_X5_hash hX (by decide) 5 rfl n3 (As := [.int (3 : Int32), .int (z_I p16.2 406 a0)]) rfl rfl (Nat.le_of_ble_eq_true rfl) (e_X5_hash n3 he18) dX4_read_83 ?_
          refine pt_4_5 o hK0 ln_1_193 dX4_read_86 ?_
          refine v_aload_n o dX4_read_89 rfl 0 rfl ?_
          refine gt_4_1 o hK0 ln_1_184 dX4_read_90 ?_
          by_cases c20 : (z_I (z_sJ p16.2 405 a0 r19) 401 a0) = (0 : Int32)
          · replace h := z_ip c20 h
            refine v_tabAt o (0 : Int32) 124 dX4_read_93 c20 (by decide) (by decide) rfl (by decide) ?_
            refine v_aload_n o dX4_read_124 rfl 0 rfl ?_
            obtain ⟨p22, he21, h⟩ := z_bind h
            refine v_callV o yw_X4_readRoot ln_4_12 wi_X4_readRoot ws_X4_readRoot hX (by decide) 4 rfl hK0 (As := []) rfl rfl (Nat.le_of_ble_eq_true rfl) (e_X4_readRoot hK0 he21) dX4_read_125 ?_
            obtain ⟨n23, h⟩ := z_gB_of h
            obtain ⟨hr, hs⟩ := Prod.mk.inj (z_some h)
            subst hr
            subst hs
            exact v_zreturn o (z_nb n23) dX4_read_128
          · replace h := z_in c20 h
            by_cases c24 : (z_I (z_sJ p16.2 405 a0 r19) 401 a0) = (1 : Int32)
            · replace h := z_ip c24 h
              refine v_tabAt o (1 : Int32) 129 dX4_read_93 c24 (by decide) (by decide) rfl (by decide) ?_
              refine v_aload_n o dX4_read_129 rfl 0 rfl ?_
              obtain ⟨p26, he25, h⟩ := z_bind h
              refine v_callV o yw_X4_readTold ln_4_16 wi_X4_readTold ws_X4_readTold hX (by decide) 4 rfl hK0 (As := []) rfl rfl (Nat.le_of_ble_eq_true rfl) (e_X4_readTold hK0 he25) dX4_read_130 ?_
              obtain ⟨n27, h⟩ := z_gB_of h
              obtain ⟨hr, hs⟩ := Prod.mk.inj (z_some h)
              subst hr
              subst hs
              exact v_zreturn o (z_nb n27) dX4_read_133
            · replace h := z_in c24 h
              by_cases c28 : (z_I (z_sJ p16.2 405 a0 r19) 401 a0) = (2 : Int32)
              · replace h := z_ip c28 h
                refine v_tabAt o (2 : Int32) 129 dX4_read_93 c28 (by decide) (by decide) rfl (by decide) ?_
                refine v_aload_n o dX4_read_129 rfl 0 rfl ?_
                obtain ⟨p30, he29, h⟩ := z_bind h
                refine v_callV o yw_X4_readTold ln_4_16 wi_X4_readTold ws_X4_readTold hX (by decide) 4 rfl hK0 (As := []) rfl rfl (Nat.le_of_ble_eq_true rfl) (e_X4_readTold hK0 he29) dX4_read_130 ?_
                obtain ⟨n31, h⟩ := z_gB_of h
                obtain ⟨hr, hs⟩ := Prod.mk.inj (z_some h)
                subst hr
                subst hs
                exact v_zreturn o (z_nb n31) dX4_read_133
              · replace h := z_in c28 h
                by_cases c32 : (z_I (z_sJ p16.2 405 a0 r19) 401 a0) = (3 : Int32)
                · replace h := z_ip c32 h
                  refine v_tabAt o (3 : Int32) 134 dX4_read_93 c32 (by decide) (by decide) rfl (by decide) ?_
                  refine v_aload_n o dX4_read_134 rfl 0 rfl ?_
                  obtain ⟨p34, he33, h⟩ := z_bind h
                  refine v_callV o yw_X4_readImages ln_4_20 wi_X4_readImages ws_X4_readImages hX (by decide) 4 rfl hK0 (As := []) rfl rfl (Nat.le_of_ble_eq_true rfl) (e_X4_readImages hK0 he33) dX4_read_135 ?_
                  obtain ⟨n35, h⟩ := z_gB_of h
                  obtain ⟨hr, hs⟩ := Prod.mk.inj (z_some h)
                  subst hr
                  subst hs
                  exact v_zreturn o (z_nb n35) dX4_read_138
                · replace h := z_in c32 h
                  refine v_tabOut o 139 dX4_read_93 ?_ (by decide) ?_
                  · by_cases hl : ((z_I (z_sJ p16.2 405 a0 r19) 401 a0)).toInt < 0
                    · exact Or.inl hl
                    · by_cases hu : 3 < ((z_I (z_sJ p16.2 405 a0 r19) 401 a0)).toInt
                      · exact Or.inr hu
                      · exfalso
                        have hh : ((z_I (z_sJ p16.2 405 a0 r19) 401 a0)).toInt = 0 ∨ ((z_I (z_sJ p16.2 405 a0 r19) 401 a0)).toInt = 1 ∨ ((z_I (z_sJ p16.2 405 a0 r19) 401 a0)).toInt = 2 ∨ ((z_I (z_sJ p16.2 405 a0 r19) 401 a0)).toInt = 3 := by omega
                        rcases hh with hh | hh | hh | hh
                        · exact c20 (z_i32 hh (by decide))
                        · exact c24 (z_i32 hh (by decide))
                        · exact c28 (z_i32 hh (by decide))
                        · exact c32 (z_i32 hh (by decide))
                  · refine v_iconst o (0 : Int32) dX4_read_139 (by decide) ?_
                    obtain ⟨hr, hs⟩ := Prod.mk.inj (z_some h)
                    subst hr
                    subst hs
                    exact v_zreturn o (by decide) dX4_read_140
        · replace h := z_ip c17 h
          refine v_iconst o (0 : Int32) dX4_read_71 (by decide) ?_
          obtain ⟨hr, hs⟩ := Prod.mk.inj (z_some h)
          subst hr
          subst hs
          exact v_zreturn o (by decide) dX4_read_72
    · replace h := z_in c2 h
      refine v_iconst o (0 : Int32) dX4_read_12 (by decide) ?_
      obtain ⟨hr, hs⟩ := Prod.mk.inj (z_some h)
      subst hr
      subst hs
      exact v_zreturn o (by decide) dX4_read_13
theorem e_X4_read {q : z_Q} {l : Launch} {G : z_G} {D : z_D} {a0 : Nat} {a1 : Nat} {a2 : Int32} {a3 : Int32} {r : Int32} {D1 : z_D} (hK0 : z_K G a0 = 104) (h : f_X4_read G D a0 a1 a2 a3 = some (r, D1)) : z_E q l yX4_read cX4_read 4 (some .boolean) 2 0 0 [.ref (z_w q a0), .ref (z_w q a1), .int a2, .int a3] G D (some (.int r)) G D1 :=
  z_E.of (by decide) (Nat.le_of_ble_eq_true rfl) (fun X hX _ o => b_X4_read o hX hK0 h)
def p_X4_hasBodyOf_15 (q : z_Q) (X : z_X) (Q : State → Prop) (G : z_G) (D : z_D) (a0 : Nat) (a1 : Nat) : Int32 → Prop := (fun v => z_V q X 3 Q 0 0 G D 15 [(0, .ref (z_w q a0)), (1, .ref (z_w q a1)), (2, .int v)] [])
def x_X4_hasBodyOf_15 (q : z_Q) (X : z_X) (Q : State → Prop) (G : z_G) (D : z_D) (a0 : Nat) (a1 : Nat) : (Unit ⊕ Unit) → Prop := (Sum.elim (fun v => z_V q X 3 Q 0 0 G D 44 [] []) (fun v => z_V q X 3 Q 0 0 G D 52 [] []))
def k_X4_hasBodyOf_15 (q : z_Q) (X : z_X) (Q : State → Prop) (G : z_G) (D : z_D) (a0 : Nat) (a1 : Nat) : Int32 ⊕ (Unit ⊕ Unit) → Prop := Sum.elim (p_X4_hasBodyOf_15 q X Q G D a0 a1) (x_X4_hasBodyOf_15 q X Q G D a0 a1)
def c_X4_hasBodyOf_15 (G : z_G) (D : z_D) (a0 : Nat) (a1 : Nat) (a2 : Int32) : Option (Int32 ⊕ (Unit ⊕ Unit)) :=
  (if ((3 : Int32) + (z_I D 406 a0)) ≤ a2 then (some (.inr (.inr ()))) else (z_gK G 105 (z_R G 400 a0) ((f_X5_at G D (z_R G 400 a0) a2).bind (fun r6 => (z_gK G 104 a1 (z_gK G 105 (z_R G 400 a1) ((f_X5_at G D (z_R G 400 a1) a2).bind (fun r10 => ((if r6 = r10 then ((some (.inl (a2 + (1 : Int32))))) else (some (.inr (.inl ())))))))))))))
set_option maxRecDepth 100000 in
set_option maxHeartbeats 4000000 in
theorem tc_X4_hasBodyOf_15 {q : z_Q} {X : z_X} {G : z_G} {D : z_D} {Q : State → Prop} {a0 : Nat} {a1 : Nat} {a2 : Int32} (o : z_O q X cX4_hasBodyOf 3 "FlashTrust$Paper" "hasBodyOf" (some .boolean)) (hX : x_R X = z_rm 1 0 0) (hK0 : z_K G a0 = 104) {ρ : Int32 ⊕ (Unit ⊕ Unit)} (h : c_X4_hasBodyOf_15 G D a0 a1 a2 = some ρ) (hk : k_X4_hasBodyOf_15 q X Q G D a0 a1 ρ) : z_V q X 3 Q 0 0 G D 15 [(0, .ref (z_w q a0)), (1, .ref (z_w q a1)), (2, .int a2)] [] := by
  unfold c_X4_hasBodyOf_15 at h
  refine v_iload_n o dX4_hasBodyOf_15 rfl 2 rfl ?_
  refine v_iconst o (3 : Int32) dX4_hasBodyOf_16 (by decide) ?_
  refine v_aload_n o dX4_hasBodyOf_17 rfl 0 rfl ?_
  refine gt_4_6 o hK0 ln_1_195 dX4_hasBodyOf_18 ?_
  refine v_iadd o dX4_hasBodyOf_21 ?_
  refine v_icmp_ge o 52 dX4_hasBodyOf_22 (by decide) (fun c3 => ?_) (fun c3 => ?_)
  · replace h := z_ip c3 h
    obtain rfl := z_some h
    refine v_sub [] rfl ?_
    exact hk
  · replace h := z_in c3 h
    refine v_aload_n o dX4_hasBodyOf_25 rfl 0 rfl ?_
    obtain ⟨n4, h⟩ := z_gK_of h
    refine gt_4_0 o hK0 ln_1_182 (by rw [n4]; decide) dX4_hasBodyOf_26 ?_
    refine v_iload_n o dX4_hasBodyOf_29 rfl 2 rfl ?_
    obtain ⟨r6, he5, h⟩ := z_bind h
    refine v_callV o yw_X5_at ln_3_236 wi_X5_at ws_X5_at hX (by decide) 5 rfl n4 (As := [.int a2]) rfl rfl (Nat.le_of_ble_eq_true rfl) (e_X5_at n4 he5) dX4_hasBodyOf_30 ?_
    refine v_aload_n o dX4_hasBodyOf_33 rfl 1 rfl ?_
    obtain ⟨n7, h⟩ := z_gK_of h
    obtain ⟨n8, h⟩ := z_gK_of h
    refine gt_4_0 o n7 ln_1_182 (by rw [n8]; decide) dX4_hasBodyOf_34 ?_
    refine v_iload_n o dX4_hasBodyOf_37 rfl 2 rfl ?_
    obtain ⟨r10, he9, h⟩ := z_bind h
    refine v_callV o yw_X5_at ln_3_236 wi_X5_at ws_X5_at hX (by decide) 5 rfl n8 (As := [.int a2]) rfl rfl (Nat.le_of_ble_eq_true rfl) (e_X5_at n8 he9) dX4_hasBodyOf_38 ?_
    refine v_icmp_eq o 46 dX4_hasBodyOf_41 (by decide) (fun c11 => ?_) (fun c11 => ?_)
    · replace h := z_ip c11 h
      refine v_iinc o (a2 + (1 : Int32)) [(2, .int (a2 + (1 : Int32))), (0, .ref (z_w q a0)), (1, .ref (z_w q a1))] dX4_hasBodyOf_46 2 rfl rfl (by decide) rfl ?_
      refine v_goto o 15 dX4_hasBodyOf_49 (by decide) ?_
      obtain rfl := z_some h
      refine v_sub [1, 2, 0] rfl ?_
      exact hk
    · replace h := z_in c11 h
      obtain rfl := z_some h
      refine v_sub [] rfl ?_
      exact hk
def f_X4_hasBodyOf (G : z_G) (D : z_D) (a0 : Nat) (a1 : Nat) : Option (Int32) :=
  z_gK G 104 a1 ((if (z_I D 406 a0) = (z_I D 406 a1) then (((z_loop (fun v => c_X4_hasBodyOf_15 G D a0 a1 v) 4000 (3 : Int32)).bind (Sum.elim (fun e12 => (some (0 : Int32))) (fun e12 => (some (1 : Int32)))))) else ((some (0 : Int32)))))
set_option maxRecDepth 100000 in
set_option maxHeartbeats 4000000 in
theorem b_X4_hasBodyOf {q : z_Q} {X : z_X} {G : z_G} {D : z_D} {a0 : Nat} {a1 : Nat} {r : Int32} (o : z_O q X cX4_hasBodyOf 3 "FlashTrust$Paper" "hasBodyOf" (some .boolean)) (hX : x_R X = z_rm 1 0 0) (hK0 : z_K G a0 = 104) (h : f_X4_hasBodyOf G D a0 a1 = some r) : z_V q X 3 (z_F q X (some (.int r)) G D 0 0) 0 0 G D 0 [(0, .ref (z_w q a0)), (1, .ref (z_w q a1))] [] := by
  unfold f_X4_hasBodyOf at h
  refine v_aload_n o dX4_hasBodyOf_0 rfl 0 rfl ?_
  refine gt_4_6 o hK0 ln_1_195 dX4_hasBodyOf_1 ?_
  refine v_aload_n o dX4_hasBodyOf_4 rfl 1 rfl ?_
  obtain ⟨n1, h⟩ := z_gK_of h
  refine gt_4_6 o n1 ln_1_195 dX4_hasBodyOf_5 ?_
  refine v_icmp_eq o 13 dX4_hasBodyOf_8 (by decide) (fun c2 => ?_) (fun c2 => ?_)
  · replace h := z_ip c2 h
    refine v_iconst o (3 : Int32) dX4_hasBodyOf_13 (by decide) ?_
    refine v_istore_n o [(2, .int (3 : Int32)), (0, .ref (z_w q a0)), (1, .ref (z_w q a1))] dX4_hasBodyOf_14 rfl (by decide) rfl ?_
    refine v_sub [1, 2, 0] rfl ?_
    obtain ⟨e12, he13, h⟩ := z_bind h
    refine z_loopV (P := p_X4_hasBodyOf_15 q X _ G D a0 a1) (E := x_X4_hasBodyOf_15 q X _ G D a0 a1) (fun v ρ hb hk => tc_X4_hasBodyOf_15 (D := D) (a0 := a0) (a1 := a1) (a2 := v) o hX hK0 hb hk) 4000 _ e12 he13 ?_
    rcases e12 with e12 | e12
    · replace h := z_el h
      show z_V q X 3 _ _ _ G D 44 [] []
      refine v_iconst o (0 : Int32) dX4_hasBodyOf_44 (by decide) ?_
      have hr := z_some h
      subst hr
      exact v_zreturn o (by decide) dX4_hasBodyOf_45
    · replace h := z_er h
      show z_V q X 3 _ _ _ G D 52 [] []
      refine v_iconst o (1 : Int32) dX4_hasBodyOf_52 (by decide) ?_
      have hr := z_some h
      subst hr
      exact v_zreturn o (by decide) dX4_hasBodyOf_53
  · replace h := z_in c2 h
    refine v_iconst o (0 : Int32) dX4_hasBodyOf_11 (by decide) ?_
    have hr := z_some h
    subst hr
    exact v_zreturn o (by decide) dX4_hasBodyOf_12
theorem e_X4_hasBodyOf {q : z_Q} {l : Launch} {G : z_G} {D : z_D} {a0 : Nat} {a1 : Nat} {r : Int32} (hK0 : z_K G a0 = 104) (h : f_X4_hasBodyOf G D a0 a1 = some r) : z_E q l yX4_hasBodyOf cX4_hasBodyOf 3 (some .boolean) 1 0 0 [.ref (z_w q a0), .ref (z_w q a1)] G D (some (.int r)) G D :=
  z_E.of (by decide) (Nat.le_of_ble_eq_true rfl) (fun X hX _ o => b_X4_hasBodyOf o hX hK0 h)
def f_X4_givesLike (G : z_G) (D : z_D) (a0 : Nat) (a1 : Nat) (a2 : Int32) : Option (Int32) :=
  z_gK G 1 (z_R G 407 a0) (z_gA G 1 (z_R G 407 a0) a2 (z_gK G 104 a1 (z_gK G 1 (z_R G 407 a1) (z_gA G 1 (z_R G 407 a1) a2 ((if (z_U D (z_R G 407 a0) (a2).toNatClampNeg) = (z_U D (z_R G 407 a1) (a2).toNatClampNeg) then (z_gK G 1 (z_R G 408 a0) (z_gA G 1 (z_R G 408 a0) a2 (z_gK G 1 (z_R G 408 a1) (z_gA G 1 (z_R G 408 a1) a2 ((if (z_U D (z_R G 408 a0) (a2).toNatClampNeg) = (z_U D (z_R G 408 a1) (a2).toNatClampNeg) then (((some (1 : Int32)))) else ((some (0 : Int32))))))))) else ((some (0 : Int32)))))))))
set_option maxRecDepth 100000 in
set_option maxHeartbeats 4000000 in
theorem b_X4_givesLike {q : z_Q} {X : z_X} {G : z_G} {D : z_D} {a0 : Nat} {a1 : Nat} {a2 : Int32} {r : Int32} (o : z_O q X cX4_givesLike 3 "FlashTrust$Paper" "givesLike" (some .boolean)) (hX : x_R X = z_rm 0 0 0) (hK0 : z_K G a0 = 104) (h : f_X4_givesLike G D a0 a1 a2 = some r) : z_V q X 3 (z_F q X (some (.int r)) G D 0 0) 0 0 G D 0 [(0, .ref (z_w q a0)), (1, .ref (z_w q a1)), (2, .int a2)] [] := by
  unfold f_X4_givesLike at h
  refine v_aload_n o dX4_givesLike_0 rfl 0 rfl ?_
  obtain ⟨n1, h⟩ := z_gK_of h
  refine gt_4_7 o hK0 ln_1_196 (by rw [n1]; decide) dX4_givesLike_1 ?_
  refine v_iload_n o dX4_givesLike_4 rfl 2 rfl ?_
  obtain ⟨n2, n3, h⟩ := z_gA_of h
  refine v_iald o n2 n3 dX4_givesLike_5 ?_
  refine v_aload_n o dX4_givesLike_6 rfl 1 rfl ?_
  obtain ⟨n4, h⟩ := z_gK_of h
  obtain ⟨n5, h⟩ := z_gK_of h
  refine gt_4_7 o n4 ln_1_196 (by rw [n5]; decide) dX4_givesLike_7 ?_
  refine v_iload_n o dX4_givesLike_10 rfl 2 rfl ?_
  obtain ⟨n6, n7, h⟩ := z_gA_of h
  refine v_iald o n6 n7 dX4_givesLike_11 ?_
  refine v_icmp_ne o 34 dX4_givesLike_12 (by decide) (fun c8 => ?_) (fun c8 => ?_)
  · replace h := z_in c8 h
    refine v_iconst o (0 : Int32) dX4_givesLike_34 (by decide) ?_
    have hr := z_some h
    subst hr
    exact v_zreturn o (by decide) dX4_givesLike_35
  · replace h := z_ip c8 h
    refine v_aload_n o dX4_givesLike_15 rfl 0 rfl ?_
    obtain ⟨n9, h⟩ := z_gK_of h
    refine gt_4_8 o hK0 ln_1_198 (by rw [n9]; decide) dX4_givesLike_16 ?_
    refine v_iload_n o dX4_givesLike_19 rfl 2 rfl ?_
    obtain ⟨n10, n11, h⟩ := z_gA_of h
    refine v_iald o n10 n11 dX4_givesLike_20 ?_
    refine v_aload_n o dX4_givesLike_21 rfl 1 rfl ?_
    obtain ⟨n12, h⟩ := z_gK_of h
    refine gt_4_8 o n4 ln_1_198 (by rw [n12]; decide) dX4_givesLike_22 ?_
    refine v_iload_n o dX4_givesLike_25 rfl 2 rfl ?_
    obtain ⟨n13, n14, h⟩ := z_gA_of h
    refine v_iald o n13 n14 dX4_givesLike_26 ?_
    refine v_icmp_ne o 34 dX4_givesLike_27 (by decide) (fun c15 => ?_) (fun c15 => ?_)
    · replace h := z_in c15 h
      refine v_iconst o (0 : Int32) dX4_givesLike_34 (by decide) ?_
      have hr := z_some h
      subst hr
      exact v_zreturn o (by decide) dX4_givesLike_35
    · replace h := z_ip c15 h
      refine v_iconst o (1 : Int32) dX4_givesLike_30 (by decide) ?_
      refine v_goto o 35 dX4_givesLike_31 (by decide) ?_
      have hr := z_some h
      subst hr
      exact v_zreturn o (by decide) dX4_givesLike_35
theorem e_X4_givesLike {q : z_Q} {l : Launch} {G : z_G} {D : z_D} {a0 : Nat} {a1 : Nat} {a2 : Int32} {r : Int32} (hK0 : z_K G a0 = 104) (h : f_X4_givesLike G D a0 a1 a2 = some r) : z_E q l yX4_givesLike cX4_givesLike 3 (some .boolean) 0 0 0 [.ref (z_w q a0), .ref (z_w q a1), .int a2] G D (some (.int r)) G D :=
  z_E.of (by decide) (Nat.le_of_ble_eq_true rfl) (fun X hX _ o => b_X4_givesLike o hX hK0 h)
def f_X4_isRole (G : z_G) (D : z_D) (a0 : Nat) (a1 : Int32) : Option (Int32) :=
  (if (z_I D 401 a0) = (0 : Int32) then ((if a1 < (0 : Int32) then ((some (0 : Int32))) else ((if (4 : Int32) ≤ a1 then ((some (0 : Int32))) else (((some (1 : Int32)))))))) else ((some (0 : Int32))))
set_option maxRecDepth 100000 in
set_option maxHeartbeats 4000000 in
theorem b_X4_isRole {q : z_Q} {X : z_X} {G : z_G} {D : z_D} {a0 : Nat} {a1 : Int32} {r : Int32} (o : z_O q X cX4_isRole 2 "FlashTrust$Paper" "isRole" (some .boolean)) (hX : x_R X = z_rm 0 0 0) (hK0 : z_K G a0 = 104) (h : f_X4_isRole G D a0 a1 = some r) : z_V q X 2 (z_F q X (some (.int r)) G D 0 0) 0 0 G D 0 [(0, .ref (z_w q a0)), (1, .int a1)] [] := by
  unfold f_X4_isRole at h
  refine v_aload_n o dX4_isRole_0 rfl 0 rfl ?_
  refine gt_4_1 o hK0 ln_1_184 dX4_isRole_1 ?_
  refine v_if_ne o 20 dX4_isRole_4 (by decide) (fun c1 => ?_) (fun c1 => ?_)
  · replace h := z_in c1 h
    refine v_iconst o (0 : Int32) dX4_isRole_20 (by decide) ?_
    have hr := z_some h
    subst hr
    exact v_zreturn o (by decide) dX4_isRole_21
  · replace h := z_ip c1 h
    refine v_iload_n o dX4_isRole_7 rfl 1 rfl ?_
    refine v_if_lt o 20 dX4_isRole_8 (by decide) (fun c2 => ?_) (fun c2 => ?_)
    · replace h := z_ip c2 h
      refine v_iconst o (0 : Int32) dX4_isRole_20 (by decide) ?_
      have hr := z_some h
      subst hr
      exact v_zreturn o (by decide) dX4_isRole_21
    · replace h := z_in c2 h
      refine v_iload_n o dX4_isRole_11 rfl 1 rfl ?_
      refine v_iconst o (4 : Int32) dX4_isRole_12 (by decide) ?_
      refine v_icmp_ge o 20 dX4_isRole_13 (by decide) (fun c3 => ?_) (fun c3 => ?_)
      · replace h := z_ip c3 h
        refine v_iconst o (0 : Int32) dX4_isRole_20 (by decide) ?_
        have hr := z_some h
        subst hr
        exact v_zreturn o (by decide) dX4_isRole_21
      · replace h := z_in c3 h
        refine v_iconst o (1 : Int32) dX4_isRole_16 (by decide) ?_
        refine v_goto o 21 dX4_isRole_17 (by decide) ?_
        have hr := z_some h
        subst hr
        exact v_zreturn o (by decide) dX4_isRole_21
theorem e_X4_isRole {q : z_Q} {l : Launch} {G : z_G} {D : z_D} {a0 : Nat} {a1 : Int32} {r : Int32} (hK0 : z_K G a0 = 104) (h : f_X4_isRole G D a0 a1 = some r) : z_E q l yX4_isRole cX4_isRole 2 (some .boolean) 0 0 0 [.ref (z_w q a0), .int a1] G D (some (.int r)) G D :=
  z_E.of (by decide) (Nat.le_of_ble_eq_true rfl) (fun X hX _ o => b_X4_isRole o hX hK0 h)
def f_X4_isImage (G : z_G) (D : z_D) (a0 : Nat) (a1 : Int32) : Option (Int32) :=
  (if (z_I D 401 a0) = (3 : Int32) then ((if a1 < (0 : Int32) then ((some (0 : Int32))) else ((if (z_I D 411 a0) ≤ a1 then ((some (0 : Int32))) else ((if (4 : Int32) ≤ a1 then ((some (0 : Int32))) else (((some (1 : Int32)))))))))) else ((some (0 : Int32))))
set_option maxRecDepth 100000 in
set_option maxHeartbeats 4000000 in
theorem b_X4_isImage {q : z_Q} {X : z_X} {G : z_G} {D : z_D} {a0 : Nat} {a1 : Int32} {r : Int32} (o : z_O q X cX4_isImage 2 "FlashTrust$Paper" "isImage" (some .boolean)) (hX : x_R X = z_rm 0 0 0) (hK0 : z_K G a0 = 104) (h : f_X4_isImage G D a0 a1 = some r) : z_V q X 2 (z_F q X (some (.int r)) G D 0 0) 0 0 G D 0 [(0, .ref (z_w q a0)), (1, .int a1)] [] := by
  unfold f_X4_isImage at h
  refine v_aload_n o dX4_isImage_0 rfl 0 rfl ?_
  refine gt_4_1 o hK0 ln_1_184 dX4_isImage_1 ?_
  refine v_iconst o (3 : Int32) dX4_isImage_4 (by decide) ?_
  refine v_icmp_ne o 29 dX4_isImage_5 (by decide) (fun c1 => ?_) (fun c1 => ?_)
  · replace h := z_in c1 h
    refine v_iconst o (0 : Int32) dX4_isImage_29 (by decide) ?_
    have hr := z_some h
    subst hr
    exact v_zreturn o (by decide) dX4_isImage_30
  · replace h := z_ip c1 h
    refine v_iload_n o dX4_isImage_8 rfl 1 rfl ?_
    refine v_if_lt o 29 dX4_isImage_9 (by decide) (fun c2 => ?_) (fun c2 => ?_)
    · replace h := z_ip c2 h
      refine v_iconst o (0 : Int32) dX4_isImage_29 (by decide) ?_
      have hr := z_some h
      subst hr
      exact v_zreturn o (by decide) dX4_isImage_30
    · replace h := z_in c2 h
      refine v_iload_n o dX4_isImage_12 rfl 1 rfl ?_
      refine v_aload_n o dX4_isImage_13 rfl 0 rfl ?_
      refine gt_4_11 o hK0 ln_1_204 dX4_isImage_14 ?_
      refine v_icmp_ge o 29 dX4_isImage_17 (by decide) (fun c3 => ?_) (fun c3 => ?_)
      · replace h := z_ip c3 h
        refine v_iconst o (0 : Int32) dX4_isImage_29 (by decide) ?_
        have hr := z_some h
        subst hr
        exact v_zreturn o (by decide) dX4_isImage_30
      · replace h := z_in c3 h
        refine v_iload_n o dX4_isImage_20 rfl 1 rfl ?_
        refine v_iconst o (4 : Int32) dX4_isImage_21 (by decide) ?_
        refine v_icmp_ge o 29 dX4_isImage_22 (by decide) (fun c4 => ?_) (fun c4 => ?_)
        · replace h := z_ip c4 h
          refine v_iconst o (0 : Int32) dX4_isImage_29 (by decide) ?_
          have hr := z_some h
          subst hr
          exact v_zreturn o (by decide) dX4_isImage_30
        · replace h := z_in c4 h
          refine v_iconst o (1 : Int32) dX4_isImage_25 (by decide) ?_
          refine v_goto o 30 dX4_isImage_26 (by decide) ?_
          have hr := z_some h
          subst hr
          exact v_zreturn o (by decide) dX4_isImage_30
theorem e_X4_isImage {q : z_Q} {l : Launch} {G : z_G} {D : z_D} {a0 : Nat} {a1 : Int32} {r : Int32} (hK0 : z_K G a0 = 104) (h : f_X4_isImage G D a0 a1 = some r) : z_E q l yX4_isImage cX4_isImage 2 (some .boolean) 0 0 0 [.ref (z_w q a0), .int a1] G D (some (.int r)) G D :=
  z_E.of (by decide) (Nat.le_of_ble_eq_true rfl) (fun X hX _ o => b_X4_isImage o hX hK0 h)
def f_X4_tell (G : z_G) (D : z_D) (a0 : Nat) (a1 : Int32) (a2 : Int32) : Option (Int32) :=
  (if a1 = (0 : Int32) then ((some (z_I D 402 a0))) else (if a1 = (1 : Int32) then ((some (((z_J D 403 a0)).toInt32))) else (if a1 = (2 : Int32) then ((some (z_I D 404 a0))) else (if a1 = (3 : Int32) then ((some (-1 : Int32))) else (if a1 = (4 : Int32) then ((f_X4_isRole G D a0 a2).bind (fun r7 => ((if r7 = (0 : Int32) then ((some (-1 : Int32))) else (z_gK G 1 (z_R G 407 a0) (z_gA G 1 (z_R G 407 a0) a2 (((some (z_U D (z_R G 407 a0) (a2).toNatClampNeg)))))))))) else (if a1 = (5 : Int32) then ((f_X4_isRole G D a0 a2).bind (fun r14 => ((if r14 = (0 : Int32) then ((some (-1 : Int32))) else (z_gK G 1 (z_R G 408 a0) (z_gA G 1 (z_R G 408 a0) a2 (((some (z_U D (z_R G 408 a0) (a2).toNatClampNeg)))))))))) else (if a1 = (6 : Int32) then ((if (z_I D 401 a0) = (1 : Int32) then (((some (z_I D 409 a0)))) else ((if (z_I D 401 a0) = (2 : Int32) then (((some (z_I D 409 a0)))) else ((some (-1 : Int32))))))) else (if a1 = (7 : Int32) then ((if (z_I D 401 a0) = (3 : Int32) then (((some (z_I D 411 a0)))) else ((some (-1 : Int32))))) else (if a1 = (8 : Int32) then ((f_X4_isImage G D a0 a2).bind (fun r26 => ((if r26 = (0 : Int32) then ((some (-1 : Int32))) else (z_gK G 1 (z_R G 412 a0) (z_gA G 1 (z_R G 412 a0) a2 (((some (z_U D (z_R G 412 a0) (a2).toNatClampNeg)))))))))) else (if a1 = (9 : Int32) then ((f_X4_isImage G D a0 a2).bind (fun r33 => ((if r33 = (0 : Int32) then ((some (-1 : Int32))) else (z_gK G 1 (z_R G 413 a0) (z_gA G 1 (z_R G 413 a0) a2 (((some (z_U D (z_R G 413 a0) (a2).toNatClampNeg)))))))))) else ((some (-1 : Int32)))))))))))))
set_option maxRecDepth 100000 in
set_option maxHeartbeats 4000000 in
theorem b_X4_tell {q : z_Q} {X : z_X} {G : z_G} {D : z_D} {a0 : Nat} {a1 : Int32} {a2 : Int32} {r : Int32} (o : z_O q X cX4_tell 3 "FlashTrust$Paper" "tell" (some .int)) (hX : x_R X = z_rm 1 0 0) (hK0 : z_K G a0 = 104) (h : f_X4_tell G D a0 a1 a2 = some r) : z_V q X 3 (z_F q X (some (.int r)) G D 0 0) 0 0 G D 0 [(0, .ref (z_w q a0)), (1, .int a1), (2, .int a2)] [] := by
  unfold f_X4_tell at h
  refine v_iload_n o dX4_tell_0 rfl 1 rfl ?_
  by_cases c1 : a1 = (0 : Int32)
  · replace h := z_ip c1 h
    refine v_tabAt o (0 : Int32) 56 dX4_tell_1 c1 (by decide) (by decide) rfl (by decide) ?_
    refine v_aload_n o dX4_tell_56 rfl 0 rfl ?_
    refine gt_4_2 o hK0 ln_1_187 dX4_tell_57 ?_
    have hr := z_some h
    subst hr
    exact v_ireturn o dX4_tell_60
  · replace h := z_in c1 h
    by_cases c2 : a1 = (1 : Int32)
    · replace h := z_ip c2 h
      refine v_tabAt o (1 : Int32) 61 dX4_tell_1 c2 (by decide) (by decide) rfl (by decide) ?_
      refine v_aload_n o dX4_tell_61 rfl 0 rfl ?_
      refine gt_4_3 o hK0 ln_1_189 dX4_tell_62 ?_
      refine v_l2i o dX4_tell_65 ?_
      have hr := z_some h
      subst hr
      exact v_ireturn o dX4_tell_66
    · replace h := z_in c2 h
      by_cases c3 : a1 = (2 : Int32)
      · replace h := z_ip c3 h
        refine v_tabAt o (2 : Int32) 67 dX4_tell_1 c3 (by decide) (by decide) rfl (by decide) ?_
        refine v_aload_n o dX4_tell_67 rfl 0 rfl ?_
        refine gt_4_4 o hK0 ln_1_191 dX4_tell_68 ?_
        have hr := z_some h
        subst hr
        exact v_ireturn o dX4_tell_71
      · replace h := z_in c3 h
        by_cases c4 : a1 = (3 : Int32)
        · replace h := z_ip c4 h
          refine v_tabAt o (3 : Int32) 190 dX4_tell_1 c4 (by decide) (by decide) rfl (by decide) ?_
          refine v_iconst o (-1 : Int32) dX4_tell_190 (by decide) ?_
          have hr := z_some h
          subst hr
          exact v_ireturn o dX4_tell_191
        · replace h := z_in c4 h
          by_cases c5 : a1 = (4 : Int32)
          · replace h := z_ip c5 h
            refine v_tabAt o (4 : Int32) 72 dX4_tell_1 c5 (by decide) (by decide) rfl (by decide) ?_
            refine v_aload_n o dX4_tell_72 rfl 0 rfl ?_
            refine v_iload_n o dX4_tell_73 rfl 2 rfl ?_
            obtain ⟨r7, he6, h⟩ := z_bind h
            refine v_callV o yw_X4_isRole ln_5_19 wi_X4_isRole ws_X4_isRole hX (by decide) 4 rfl hK0 (As := [.int a2]) rfl rfl (Nat.le_of_ble_eq_true rfl) (e_X4_isRole hK0 he6) dX4_tell_74 ?_
            refine v_if_eq o 89 dX4_tell_77 (by decide) (fun c8 => ?_) (fun c8 => ?_)
            · replace h := z_ip c8 h
              refine v_iconst o (-1 : Int32) dX4_tell_89 (by decide) ?_
              have hr := z_some h
              subst hr
              exact v_ireturn o dX4_tell_90
            · replace h := z_in c8 h
              refine v_aload_n o dX4_tell_80 rfl 0 rfl ?_
              obtain ⟨n9, h⟩ := z_gK_of h
              refine gt_4_7 o hK0 ln_1_196 (by rw [n9]; decide) dX4_tell_81 ?_
              refine v_iload_n o dX4_tell_84 rfl 2 rfl ?_
              obtain ⟨n10, n11, h⟩ := z_gA_of h
              refine v_iald o n10 n11 dX4_tell_85 ?_
              refine v_goto o 90 dX4_tell_86 (by decide) ?_
              have hr := z_some h
              subst hr
              exact v_ireturn o dX4_tell_90
          · replace h := z_in c5 h
            by_cases c12 : a1 = (5 : Int32)
            · replace h := z_ip c12 h
              refine v_tabAt o (5 : Int32) 91 dX4_tell_1 c12 (by decide) (by decide) rfl (by decide) ?_
              refine v_aload_n o dX4_tell_91 rfl 0 rfl ?_
              refine v_iload_n o dX4_tell_92 rfl 2 rfl ?_
              obtain ⟨r14, he13, h⟩ := z_bind h
              refine v_callV o yw_X4_isRole ln_5_19 wi_X4_isRole ws_X4_isRole hX (by decide) 4 rfl hK0 (As := [.int a2]) rfl rfl (Nat.le_of_ble_eq_true rfl) (e_X4_isRole hK0 he13) dX4_tell_93 ?_
              refine v_if_eq o 108 dX4_tell_96 (by decide) (fun c15 => ?_) (fun c15 => ?_)
              · replace h := z_ip c15 h
                refine v_iconst o (-1 : Int32) dX4_tell_108 (by decide) ?_
                have hr := z_some h
                subst hr
                exact v_ireturn o dX4_tell_109
              · replace h := z_in c15 h
                refine v_aload_n o dX4_tell_99 rfl 0 rfl ?_
                obtain ⟨n16, h⟩ := z_gK_of h
                refine gt_4_8 o hK0 ln_1_198 (by rw [n16]; decide) dX4_tell_100 ?_
                refine v_iload_n o dX4_tell_103 rfl 2 rfl ?_
                obtain ⟨n17, n18, h⟩ := z_gA_of h
                refine v_iald o n17 n18 dX4_tell_104 ?_
                refine v_goto o 109 dX4_tell_105 (by decide) ?_
                have hr := z_some h
                subst hr
                exact v_ireturn o dX4_tell_109
            · replace h := z_in c12 h
              by_cases c19 : a1 = (6 : Int32)
              · replace h := z_ip c19 h
                refine v_tabAt o (6 : Int32) 110 dX4_tell_1 c19 (by decide) (by decide) rfl (by decide) ?_
                refine v_aload_n o dX4_tell_110 rfl 0 rfl ?_
                refine gt_4_1 o hK0 ln_1_184 dX4_tell_111 ?_
                refine v_iconst o (1 : Int32) dX4_tell_114 (by decide) ?_
                refine v_icmp_eq o 126 dX4_tell_115 (by decide) (fun c20 => ?_) (fun c20 => ?_)
                · replace h := z_ip c20 h
                  refine v_aload_n o dX4_tell_126 rfl 0 rfl ?_
                  refine gt_4_9 o hK0 ln_1_200 dX4_tell_127 ?_
                  refine v_goto o 134 dX4_tell_130 (by decide) ?_
                  have hr := z_some h
                  subst hr
                  exact v_ireturn o dX4_tell_134
                · replace h := z_in c20 h
                  refine v_aload_n o dX4_tell_118 rfl 0 rfl ?_
                  refine gt_4_1 o hK0 ln_1_184 dX4_tell_119 ?_
                  refine v_iconst o (2 : Int32) dX4_tell_122 (by decide) ?_
                  refine v_icmp_ne o 133 dX4_tell_123 (by decide) (fun c21 => ?_) (fun c21 => ?_)
                  · replace h := z_in c21 h
                    refine v_iconst o (-1 : Int32) dX4_tell_133 (by decide) ?_
                    have hr := z_some h
                    subst hr
                    exact v_ireturn o dX4_tell_134
                  · replace h := z_ip c21 h
                    refine v_aload_n o dX4_tell_126 rfl 0 rfl ?_
                    refine gt_4_9 o hK0 ln_1_200 dX4_tell_127 ?_
                    refine v_goto o 134 dX4_tell_130 (by decide) ?_
                    have hr := z_some h
                    subst hr
                    exact v_ireturn o dX4_tell_134
              · replace h := z_in c19 h
                by_cases c22 : a1 = (7 : Int32)
                · replace h := z_ip c22 h
                  refine v_tabAt o (7 : Int32) 135 dX4_tell_1 c22 (by decide) (by decide) rfl (by decide) ?_
                  refine v_aload_n o dX4_tell_135 rfl 0 rfl ?_
                  refine gt_4_1 o hK0 ln_1_184 dX4_tell_136 ?_
                  refine v_iconst o (3 : Int32) dX4_tell_139 (by decide) ?_
                  refine v_icmp_ne o 150 dX4_tell_140 (by decide) (fun c23 => ?_) (fun c23 => ?_)
                  · replace h := z_in c23 h
                    refine v_iconst o (-1 : Int32) dX4_tell_150 (by decide) ?_
                    have hr := z_some h
                    subst hr
                    exact v_ireturn o dX4_tell_151
                  · replace h := z_ip c23 h
                    refine v_aload_n o dX4_tell_143 rfl 0 rfl ?_
                    refine gt_4_11 o hK0 ln_1_204 dX4_tell_144 ?_
                    refine v_goto o 151 dX4_tell_147 (by decide) ?_
                    have hr := z_some h
                    subst hr
                    exact v_ireturn o dX4_tell_151
                · replace h := z_in c22 h
                  by_cases c24 : a1 = (8 : Int32)
                  · replace h := z_ip c24 h
                    refine v_tabAt o (8 : Int32) 152 dX4_tell_1 c24 (by decide) (by decide) rfl (by decide) ?_
                    refine v_aload_n o dX4_tell_152 rfl 0 rfl ?_
                    refine v_iload_n o dX4_tell_153 rfl 2 rfl ?_
                    obtain ⟨r26, he25, h⟩ := z_bind h
                    refine v_callV o yw_X4_isImage ln_5_23 wi_X4_isImage ws_X4_isImage hX (by decide) 4 rfl hK0 (As := [.int a2]) rfl rfl (Nat.le_of_ble_eq_true rfl) (e_X4_isImage hK0 he25) dX4_tell_154 ?_
                    refine v_if_eq o 169 dX4_tell_157 (by decide) (fun c27 => ?_) (fun c27 => ?_)
                    · replace h := z_ip c27 h
                      refine v_iconst o (-1 : Int32) dX4_tell_169 (by decide) ?_
                      have hr := z_some h
                      subst hr
                      exact v_ireturn o dX4_tell_170
                    · replace h := z_in c27 h
                      refine v_aload_n o dX4_tell_160 rfl 0 rfl ?_
                      obtain ⟨n28, h⟩ := z_gK_of h
                      refine gt_4_12 o hK0 ln_1_206 (by rw [n28]; decide) dX4_tell_161 ?_
                      refine v_iload_n o dX4_tell_164 rfl 2 rfl ?_
                      obtain ⟨n29, n30, h⟩ := z_gA_of h
                      refine v_iald o n29 n30 dX4_tell_165 ?_
                      refine v_goto o 170 dX4_tell_166 (by decide) ?_
                      have hr := z_some h
                      subst hr
                      exact v_ireturn o dX4_tell_170
                  · replace h := z_in c24 h
                    by_cases c31 : a1 = (9 : Int32)
                    · replace h := z_ip c31 h
                      refine v_tabAt o (9 : Int32) 171 dX4_tell_1 c31 (by decide) (by decide) rfl (by decide) ?_
                      refine v_aload_n o dX4_tell_171 rfl 0 rfl ?_
                      refine v_iload_n o dX4_tell_172 rfl 2 rfl ?_
                      obtain ⟨r33, he32, h⟩ := z_bind h
                      refine v_callV o yw_X4_isImage ln_5_23 wi_X4_isImage ws_X4_isImage hX (by decide) 4 rfl hK0 (As := [.int a2]) rfl rfl (Nat.le_of_ble_eq_true rfl) (e_X4_isImage hK0 he32) dX4_tell_173 ?_
                      refine v_if_eq o 188 dX4_tell_176 (by decide) (fun c34 => ?_) (fun c34 => ?_)
                      · replace h := z_ip c34 h
                        refine v_iconst o (-1 : Int32) dX4_tell_188 (by decide) ?_
                        have hr := z_some h
                        subst hr
                        exact v_ireturn o dX4_tell_189
                      · replace h := z_in c34 h
                        refine v_aload_n o dX4_tell_179 rfl 0 rfl ?_
                        obtain ⟨n35, h⟩ := z_gK_of h
                        refine gt_4_13 o hK0 ln_1_208 (by rw [n35]; decide) dX4_tell_180 ?_
                        refine v_iload_n o dX4_tell_183 rfl 2 rfl ?_
                        obtain ⟨n36, n37, h⟩ := z_gA_of h
                        refine v_iald o n36 n37 dX4_tell_184 ?_
                        refine v_goto o 189 dX4_tell_185 (by decide) ?_
                        have hr := z_some h
                        subst hr
                        exact v_ireturn o dX4_tell_189
                    · replace h := z_in c31 h
                      refine v_tabOut o 190 dX4_tell_1 ?_ (by decide) ?_
                      · by_cases hl : (a1).toInt < 0
                        · exact Or.inl hl
                        · by_cases hu : 9 < (a1).toInt
                          · exact Or.inr hu
                          · exfalso
                            have hh : (a1).toInt = 0 ∨ (a1).toInt = 1 ∨ (a1).toInt = 2 ∨ (a1).toInt = 3 ∨ (a1).toInt = 4 ∨ (a1).toInt = 5 ∨ (a1).toInt = 6 ∨ (a1).toInt = 7 ∨ (a1).toInt = 8 ∨ (a1).toInt = 9 := by omega
                            rcases hh with hh | hh | hh | hh | hh | hh | hh | hh | hh | hh
                            · exact c1 (z_i32 hh (by decide))
                            · exact c2 (z_i32 hh (by decide))
                            · exact c3 (z_i32 hh (by decide))
                            · exact c4 (z_i32 hh (by decide))
                            · exact c5 (z_i32 hh (by decide))
                            · exact c12 (z_i32 hh (by decide))
                            · exact c19 (z_i32 hh (by decide))
                            · exact c22 (z_i32 hh (by decide))
                            · exact c24 (z_i32 hh (by decide))
                            · exact c31 (z_i32 hh (by decide))
                      · refine v_iconst o (-1 : Int32) dX4_tell_190 (by decide) ?_
                        have hr := z_some h
                        subst hr
                        exact v_ireturn o dX4_tell_191
theorem e_X4_tell {q : z_Q} {l : Launch} {G : z_G} {D : z_D} {a0 : Nat} {a1 : Int32} {a2 : Int32} {r : Int32} (hK0 : z_K G a0 = 104) (h : f_X4_tell G D a0 a1 a2 = some r) : z_E q l yX4_tell cX4_tell 3 (some .int) 1 0 0 [.ref (z_w q a0), .int a1, .int a2] G D (some (.int r)) G D :=
  z_E.of (by decide) (Nat.le_of_ble_eq_true rfl) (fun X hX _ o => b_X4_tell o hX hK0 h)
def j_X0_look_190 (G : z_G) (D : z_D) (a0 : Nat) (a2 : Int64) (s0 : Int32) : Option (z_D) :=
  (if s0 = (0 : Int32) then ((some D)) else ((some (z_sI D 4 a0 ((a2).toInt32)))))
set_option maxRecDepth 100000 in
set_option maxHeartbeats 4000000 in
theorem tj_X0_look_190 {q : z_Q} {X : z_X} {G : z_G} {D : z_D} {a0 : Nat} {a2 : Int64} {s0 : Int32}  {D1 : z_D} (o : z_O q X cX0_look 8 "FlashTrust$Entry" "look" none) (hX : x_R X = z_rm 3 0 0) (hK0 : z_K G a0 = 100) (h : j_X0_look_190 G D a0 a2 s0 = some D1) : z_V q X 8 (z_F q X none G D1 0 0) 0 0 G D 190 [(0, .ref (z_w q a0)), (2, .long a2)] [.int s0] := by
  unfold j_X0_look_190 at h
  refine v_istore o [(7, .int s0), (0, .ref (z_w q a0)), (2, .long a2)] dX0_look_190 (by decide) rfl ?_
  refine v_iload o dX0_look_192 0 rfl ?_
  refine v_if_eq o 203 dX0_look_194 (by decide) (fun c22 => ?_) (fun c22 => ?_)
  · replace h := z_ip c22 h
    have hr := z_some h
    subst hr
    exact v_return o dX0_look_203
  · replace h := z_in c22 h
    refine v_aload_n o dX0_look_197 rfl 1 rfl ?_
    refine v_lload_n o dX0_look_198 rfl 2 rfl ?_
    refine v_l2i o dX0_look_199 ?_
    refine pt_0_4 o hK0 ln_2_19 dX0_look_200 ?_
    have hr := z_some h
    subst hr
    exact v_return o dX0_look_203
def j_X0_look_174 (G : z_G) (D : z_D) (a0 : Nat) (a2 : Int64)  : Option (z_D) :=
  (j_X0_look_190 G D  a0 a2 (0 : Int32))
set_option maxRecDepth 100000 in
set_option maxHeartbeats 4000000 in
theorem tj_X0_look_174 {q : z_Q} {X : z_X} {G : z_G} {D : z_D} {a0 : Nat} {a2 : Int64}   {D1 : z_D} (o : z_O q X cX0_look 8 "FlashTrust$Entry" "look" none) (hX : x_R X = z_rm 3 0 0) (hK0 : z_K G a0 = 100) (h : j_X0_look_174 G D a0 a2  = some D1) : z_V q X 8 (z_F q X none G D1 0 0) 0 0 G D 174 [(0, .ref (z_w q a0)), (2, .long a2)] [] := by
  unfold j_X0_look_174 at h
  refine v_iconst o (0 : Int32) dX0_look_174 (by decide) ?_
  refine v_goto o 190 dX0_look_175 (by decide) ?_
  exact tj_X0_look_190 o hX hK0 h
def j_X0_look_123 (G : z_G) (D : z_D) (a0 : Nat) (a1 : Int32) (a2 : Int64) (a4 : Int32) (s0 : Int32) (s1 : Nat) : Option (z_D) :=
  z_gK G 100 s1 (z_gB s0 ((if (z_I (z_sI D 5 s1 s0) 5 a0) = (0 : Int32) then ((if (z_I (z_sI D 5 s1 s0) 1 a0) = (0 : Int32) then ((j_X0_look_190 G (z_sI D 5 s1 s0)  a0 a2 (0 : Int32))) else ((j_X0_look_190 G (z_sI D 5 s1 s0)  a0 a2 (1 : Int32))))) else (z_gK G 104 (z_R G 3 a0) (z_gK G 101 (z_R G 0 a0) (z_gK G 105 (z_R G 100 (z_R G 0 a0)) ((f_X4_read G (z_sI D 5 s1 s0) (z_R G 3 a0) (z_R G 100 (z_R G 0 a0)) (a1 + (6 : Int32)) a4).bind (fun p27 => ((if p27.1 = (0 : Int32) then (j_X0_look_174 G p27.2  a0 a2) else ((if (z_I p27.2 401 (z_R G 3 a0)) = (z_I p27.2 1 a0) then ((j_X0_look_190 G p27.2  a0 a2 (1 : Int32))) else (j_X0_look_174 G p27.2  a0 a2)))))))))))))
set_option maxRecDepth 100000 in
set_option maxHeartbeats 4000000 in
theorem tj_X0_look_123 {q : z_Q} {X : z_X} {G : z_G} {D : z_D} {a0 : Nat} {a1 : Int32} {a2 : Int64} {a4 : Int32} {s0 : Int32} {s1 : Nat}  {D1 : z_D} (o : z_O q X cX0_look 8 "FlashTrust$Entry" "look" none) (hX : x_R X = z_rm 3 0 0) (hK0 : z_K G a0 = 100) (h : j_X0_look_123 G D a0 a1 a2 a4 s0 s1 = some D1) : z_V q X 8 (z_F q X none G D1 0 0) 0 0 G D 123 [(0, .ref (z_w q a0)), (1, .int a1), (2, .long a2), (4, .int a4)] [.int s0, .ref (z_w q s1)] := by
  unfold j_X0_look_123 at h
  obtain ⟨n18, h⟩ := z_gK_of h
  obtain ⟨n19, h⟩ := z_gB_of h
  refine pt_0_5 o n18 ln_2_21 n19 dX0_look_123 ?_
  refine v_aload_n o dX0_look_126 rfl 0 rfl ?_
  refine gt_0_5 o hK0 ln_2_21 dX0_look_127 ?_
  refine v_if_eq o 178 dX0_look_130 (by decide) (fun c20 => ?_) (fun c20 => ?_)
  · replace h := z_ip c20 h
    refine v_aload_n o dX0_look_178 rfl 0 rfl ?_
    refine gt_0_1 o hK0 ln_2_14 dX0_look_179 ?_
    refine v_if_eq o 189 dX0_look_182 (by decide) (fun c21 => ?_) (fun c21 => ?_)
    · replace h := z_ip c21 h
      refine v_iconst o (0 : Int32) dX0_look_189 (by decide) ?_
      refine v_sub [0, 2] rfl ?_
      exact tj_X0_look_190 o hX hK0 h
    · replace h := z_in c21 h
      refine v_iconst o (1 : Int32) dX0_look_185 (by decide) ?_
      refine v_goto o 190 dX0_look_186 (by decide) ?_
      refine v_sub [0, 2] rfl ?_
      exact tj_X0_look_190 o hX hK0 h
  · replace h := z_in c20 h
    refine v_aload_n o dX0_look_133 rfl 0 rfl ?_
    obtain ⟨n23, h⟩ := z_gK_of h
    refine gt_0_3 o hK0 ln_2_17 (by rw [n23]; decide) dX0_look_134 ?_
    refine v_aload_n o dX0_look_137 rfl 0 rfl ?_
    obtain ⟨n24, h⟩ := z_gK_of h
    refine gt_0_0 o hK0 ln_2_13 (by rw [n24]; decide) dX0_look_138 ?_
    obtain ⟨n25, h⟩ := z_gK_of h
    refine gt_1_0 o n24 ln_1_145 (by rw [n25]; decide) dX0_look_141 ?_
    refine v_iload_n o dX0_look_144 rfl 1 rfl ?_
    refine v_bipush o (6 : Int32) dX0_look_145 (by decide) ?_
    refine v_iadd o dX0_look_147 ?_
    refine v_iload o dX0_look_148 3 rfl ?_
    obtain ⟨p27, he26, h⟩ := z_bind h
    refine v_callV o yw_X4_read ln_4_81 wi_X4_read ws_X4_read hX (by decide) 4 rfl n23 (As := [.ref (z_w q (z_R G 100 (z_R G 0 a0))), .int (a1 + (6 : Int32)), .int a4]) rfl rfl (Nat.le_of_ble_eq_true rfl) (e_X4_read n23 he26) dX0_look_150 ?_
    refine v_if_eq o 174 dX0_look_153 (by decide) (fun c28 => ?_) (fun c28 => ?_)
    · replace h := z_ip c28 h
      refine v_sub [0, 2] rfl ?_
      exact tj_X0_look_174 o hX hK0 h
    · replace h := z_in c28 h
      refine v_aload_n o dX0_look_156 rfl 0 rfl ?_
      refine gt_0_3 o hK0 ln_2_17 (by rw [n23]; decide) dX0_look_157 ?_
      refine gt_4_1 o n23 ln_1_185 dX0_look_160 ?_
      refine v_aload_n o dX0_look_163 rfl 0 rfl ?_
      refine gt_0_1 o hK0 ln_2_14 dX0_look_164 ?_
      refine v_icmp_ne o 174 dX0_look_167 (by decide) (fun c29 => ?_) (fun c29 => ?_)
      · replace h := z_in c29 h
        refine v_sub [0, 2] rfl ?_
        exact tj_X0_look_174 o hX hK0 h
      · replace h := z_ip c29 h
        refine v_iconst o (1 : Int32) dX0_look_170 (by decide) ?_
        refine v_goto o 190 dX0_look_171 (by decide) ?_
        refine v_sub [0, 2] rfl ?_
        exact tj_X0_look_190 o hX hK0 h
def f_X0_look (G : z_G) (D : z_D) (a0 : Nat) : Option (z_D) :=
  z_gK G 101 (z_R G 0 a0) (z_gK G 105 (z_R G 100 (z_R G 0 a0)) ((f_X5_number G D (z_R G 100 (z_R G 0 a0)) ((z_I D 2 a0) * (128 : Int32)) (4 : Int32)).bind (fun r4 => ((f_X5_number G D (z_R G 100 (z_R G 0 a0)) (((z_I D 2 a0) * (128 : Int32)) + (4 : Int32)) (2 : Int32)).bind (fun r6 => ((if (lg_cmp r4 (1 : Int64)) < (0 : Int32) then ((some (z_sI D 4 a0 (0 : Int32)))) else ((if (0 : Int32) < (lg_cmp r4 (2147483647 : Int64)) then ((some (z_sI D 4 a0 (0 : Int32)))) else ((if (r6).toInt32 ≤ (118 : Int32) then ((f_X5_hash G (z_sI D 4 a0 (0 : Int32)) (z_R G 100 (z_R G 0 a0)) ((z_I D 2 a0) * (128 : Int32)) ((6 : Int32) + (r6).toInt32)).bind (fun r11 => ((f_X5_checkOf G (z_sI D 4 a0 (0 : Int32)) r11).bind (fun r13 => ((f_X5_number G (z_sI D 4 a0 (0 : Int32)) (z_R G 100 (z_R G 0 a0)) ((((z_I D 2 a0) * (128 : Int32)) + (6 : Int32)) + (r6).toInt32) (4 : Int32)).bind (fun r15 => ((if (lg_cmp r13 r15) = (0 : Int32) then ((if (r6).toInt32 ≤ (0 : Int32) then ((j_X0_look_123 G (z_sI D 4 a0 (0 : Int32))  a0 ((z_I D 2 a0) * (128 : Int32)) r4 ((r6).toInt32) (0 : Int32) a0)) else ((j_X0_look_123 G (z_sI D 4 a0 (0 : Int32))  a0 ((z_I D 2 a0) * (128 : Int32)) r4 ((r6).toInt32) (1 : Int32) a0)))) else ((some (z_sI D 4 a0 (0 : Int32)))))))))))) else ((some (z_sI D 4 a0 (0 : Int32)))))))))))))))
set_option maxRecDepth 100000 in
set_option maxHeartbeats 4000000 in
theorem b_X0_look {q : z_Q} {X : z_X} {G : z_G} {D : z_D} {a0 : Nat}  {D1 : z_D} (o : z_O q X cX0_look 8 "FlashTrust$Entry" "look" none) (hX : x_R X = z_rm 3 0 0) (hK0 : z_K G a0 = 100) (h : f_X0_look G D a0 = some D1) : z_V q X 8 (z_F q X none G D1 0 0) 0 0 G D 0 [(0, .ref (z_w q a0))] [] := by
  unfold f_X0_look at h
  refine v_aload_n o dX0_look_0 rfl 0 rfl ?_
  refine gt_0_2 o hK0 ln_2_15 dX0_look_1 ?_
  refine v_sipush o (128 : Int32) dX0_look_4 (by decide) ?_
  refine v_imul o dX0_look_7 ?_
  refine v_istore_n o [(1, .int ((z_I D 2 a0) * (128 : Int32))), (0, .ref (z_w q a0))] dX0_look_8 rfl (by decide) rfl ?_
  refine v_aload_n o dX0_look_9 rfl 1 rfl ?_
  obtain ⟨n1, h⟩ := z_gK_of h
  refine gt_0_0 o hK0 ln_2_13 (by rw [n1]; decide) dX0_look_10 ?_
  obtain ⟨n2, h⟩ := z_gK_of h
  refine gt_1_0 o n1 ln_1_145 (by rw [n2]; decide) dX0_look_13 ?_
  refine v_iload_n o dX0_look_16 rfl 0 rfl ?_
  refine v_iconst o (4 : Int32) dX0_look_17 (by decide) ?_
  obtain ⟨r4, he3, h⟩ := z_bind h
  refine v_callV o yw_X5_number ln_4_77 wi_X5_number ws_X5_number hX (by decide) 5 rfl n2 (As := [.int ((z_I D 2 a0) * (128 : Int32)), .int (4 : Int32)]) rfl rfl (Nat.le_of_ble_eq_true rfl) (e_X5_number n2 he3) dX0_look_18 ?_
  refine v_lstore_n o [(2, .long r4), (1, .int ((z_I D 2 a0) * (128 : Int32))), (0, .ref (z_w q a0))] dX0_look_21 rfl (by decide) rfl ?_
  refine v_aload_n o dX0_look_22 rfl 2 rfl ?_
  refine gt_0_0 o hK0 ln_2_13 (by rw [n1]; decide) dX0_look_23 ?_
  refine gt_1_0 o n1 ln_1_145 (by rw [n2]; decide) dX0_look_26 ?_
  refine v_iload_n o dX0_look_29 rfl 1 rfl ?_
  refine v_iconst o (4 : Int32) dX0_look_30 (by decide) ?_
  refine v_iadd o dX0_look_31 ?_
  refine v_iconst o (2 : Int32) dX0_look_32 (by decide) ?_
  obtain ⟨r6, he5, h⟩ := z_bind h
  refine v_callV o yw_X5_number ln_4_77 wi_X5_number ws_X5_number hX (by decide) 5 rfl n2 (As := [.int (((z_I D 2 a0) * (128 : Int32)) + (4 : Int32)), .int (2 : Int32)]) rfl rfl (Nat.le_of_ble_eq_true rfl) (e_X5_number n2 he5) dX0_look_33 ?_
  refine v_l2i o dX0_look_36 ?_
  refine v_istore o [(4, .int (r6).toInt32), (2, .long r4), (1, .int ((z_I D 2 a0) * (128 : Int32))), (0, .ref (z_w q a0))] dX0_look_37 (by decide) rfl ?_
  refine v_aload_n o dX0_look_39 rfl 3 rfl ?_
  refine v_iconst o (0 : Int32) dX0_look_40 (by decide) ?_
  refine pt_0_4 o hK0 ln_2_19 dX0_look_41 ?_
  refine v_lload_n o dX0_look_44 rfl 1 rfl ?_
  refine v_lconst o (1 : Int64) dX0_look_45 (by decide) ?_
  refine v_lcmp o dX0_look_46 ?_
  refine v_if_lt o 65 dX0_look_47 (by decide) (fun c7 => ?_) (fun c7 => ?_)
  · replace h := z_ip c7 h
    have hr := z_some h
    subst hr
    exact v_return o dX0_look_65
  · replace h := z_in c7 h
    refine v_lload_n o dX0_look_50 rfl 1 rfl ?_
    refine v_ldc2 o ln_4_78 dX0_look_51 ?_
    refine v_lcmp o dX0_look_54 ?_
    refine v_if_gt o 65 dX0_look_55 (by decide) (fun c8 => ?_) (fun c8 => ?_)
    · replace h := z_ip c8 h
      have hr := z_some h
      subst hr
      exact v_return o dX0_look_65
    · replace h := z_in c8 h
      refine v_iload o dX0_look_58 0 rfl ?_
      refine v_bipush o (118 : Int32) dX0_look_60 (by decide) ?_
      refine v_icmp_le o 66 dX0_look_62 (by decide) (fun c9 => ?_) (fun c9 => ?_)
      · replace h := z_ip c9 h
        refine v_aload_n o dX0_look_66 rfl 3 rfl ?_
        refine gt_0_0 o hK0 ln_2_13 (by rw [n1]; decide) dX0_look_67 ?_
        refine gt_1_0 o n1 ln_1_145 (by rw [n2]; decide) dX0_look_70 ?_
        refine v_iload_n o dX0_look_73 rfl 2 rfl ?_
        refine v_bipush o (6 : Int32) dX0_look_74 (by decide) ?_
        refine v_iload o dX0_look_76 0 rfl ?_
        refine v_iadd o dX0_look_78 ?_
        obtain ⟨r11, he10, h⟩ := z_bind h
        refine v_callV o yw_X5_hash ln_4_79 wi_X5_hash ws_X5_hash hX (by decide) 5 rfl n2 (As := [.int ((z_I D 2 a0) * (128 : Int32)), .int ((6 : Int32) + (r6).toInt32)]) rfl rfl (Nat.le_of_ble_eq_true rfl) (e_X5_hash n2 he10) dX0_look_79 ?_
        obtain ⟨r13, he12, h⟩ := z_bind h
        refine v_callS o yw_X5_checkOf ln_4_80 ws_X5_checkOf hX (by decide) (As := [.long r11]) rfl rfl (Nat.le_of_ble_eq_true rfl) (e_X5_checkOf he12) dX0_look_82 ?_
        refine v_lstore o [(5, .long r13), (4, .int (r6).toInt32), (2, .long r4), (1, .int ((z_I D 2 a0) * (128 : Int32))), (0, .ref (z_w q a0))] dX0_look_85 (by decide) rfl ?_
        refine v_lload o dX0_look_87 0 rfl ?_
        refine v_aload_n o dX0_look_89 rfl 4 rfl ?_
        refine gt_0_0 o hK0 ln_2_13 (by rw [n1]; decide) dX0_look_90 ?_
        refine gt_1_0 o n1 ln_1_145 (by rw [n2]; decide) dX0_look_93 ?_
        refine v_iload_n o dX0_look_96 rfl 3 rfl ?_
        refine v_bipush o (6 : Int32) dX0_look_97 (by decide) ?_
        refine v_iadd o dX0_look_99 ?_
        refine v_iload o dX0_look_100 1 rfl ?_
        refine v_iadd o dX0_look_102 ?_
        refine v_iconst o (4 : Int32) dX0_look_103 (by decide) ?_
        obtain ⟨r15, he14, h⟩ := z_bind h
        refine v_callV o yw_X5_number ln_4_77 wi_X5_number ws_X5_number hX (by decide) 5 rfl n2 (As := [.int ((((z_I D 2 a0) * (128 : Int32)) + (6 : Int32)) + (r6).toInt32), .int (4 : Int32)]) rfl rfl (Nat.le_of_ble_eq_true rfl) (e_X5_number n2 he14) dX0_look_104 ?_
        refine v_lcmp o dX0_look_107 ?_
        refine v_if_eq o 112 dX0_look_108 (by decide) (fun c16 => ?_) (fun c16 => ?_)
        · replace h := z_ip c16 h
          refine v_aload_n o dX0_look_112 rfl 4 rfl ?_
          refine v_iload o dX0_look_113 1 rfl ?_
          refine v_if_le o 122 dX0_look_115 (by decide) (fun c17 => ?_) (fun c17 => ?_)
          · replace h := z_ip c17 h
            refine v_iconst o (0 : Int32) dX0_look_122 (by decide) ?_
            refine v_sub [4, 3, 2, 1] rfl ?_
            exact tj_X0_look_123 o hX hK0 h
          · replace h := z_in c17 h
            refine v_iconst o (1 : Int32) dX0_look_118 (by decide) ?_
            refine v_goto o 123 dX0_look_119 (by decide) ?_
            refine v_sub [4, 3, 2, 1] rfl ?_
            exact tj_X0_look_123 o hX hK0 h
        · replace h := z_in c16 h
          have hr := z_some h
          subst hr
          exact v_return o dX0_look_111
      · replace h := z_in c9 h
        have hr := z_some h
        subst hr
        exact v_return o dX0_look_65
theorem e_X0_look {q : z_Q} {l : Launch} {G : z_G} {D : z_D} {a0 : Nat}  {D1 : z_D} (hK0 : z_K G a0 = 100) (h : f_X0_look G D a0 = some D1) : z_E q l yX0_look cX0_look 8 none 3 0 0 [.ref (z_w q a0)] G D none G D1 :=
  z_E.of (by decide) (Nat.le_of_ble_eq_true rfl) (fun X hX _ o => b_X0_look o hX hK0 h)
