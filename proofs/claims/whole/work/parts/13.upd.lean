def f_X3_planRole (G : z_G) (D : z_D) (a0 : Nat) (a1 : Int32) (a2 : Int32) (a3 : Int32) : Option (Int32 × z_D) :=
  (f_J6_bitCount_0f7a4 G D a2).bind (fun r2 => ((if a1 < (0 : Int32) then ((some ((-1 : Int32), D))) else ((if (4 : Int32) ≤ a1 then ((some ((-1 : Int32), D))) else ((if a2 < (1 : Int32) then ((some ((-1 : Int32), D))) else ((if (65536 : Int32) ≤ a2 then ((some ((-1 : Int32), D))) else ((if r2 ≤ (5 : Int32) then ((if a3 < (1 : Int32) then ((some ((-1 : Int32), D))) else ((if a3 ≤ r2 then (z_gK G 1 (z_R G 301 a0) (z_gA G 1 (z_R G 301 a0) a1 (z_gK G 1 (z_R G 302 a0) (z_gA G 1 (z_R G 302 a0) a1 ((some ((1 : Int32), (z_sU (z_sU D (z_R G 301 a0) (a1).toNatClampNeg a2) (z_R G 302 a0) (a1).toNatClampNeg a3)))))))) else ((some ((-1 : Int32), D))))))) else ((some ((-1 : Int32), D))))))))))))))
set_option maxRecDepth 100000 in
set_option maxHeartbeats 4000000 in
theorem b_X3_planRole {q : z_Q} {X : z_X} {G : z_G} {D : z_D} {a0 : Nat} {a1 : Int32} {a2 : Int32} {a3 : Int32} {r : Int32} {D1 : z_D} (o : z_O q X cX3_planRole 5 "FlashTrust$Maker" "planRole" (some .int)) (hX : x_R X = z_rm 1 0 0) (hK0 : z_K G a0 = 103) (h : f_X3_planRole G D a0 a1 a2 a3 = some (r, D1)) : z_V q X 5 (z_F q X (some (.int r)) G D1 0 0) 0 0 G D 0 [(0, .ref (z_w q a0)), (1, .int a1), (2, .int a2), (3, .int a3)] [] := by
  unfold f_X3_planRole at h
  refine v_iload_n o dX3_planRole_0 rfl 2 rfl ?_
  obtain ⟨r2, he1, h⟩ := z_bind h
  refine v_callS o yw_J6_bitCount_0f7a4 ln_3_83 ws_J6_bitCount_0f7a4 hX (by decide) (As := [.int a2]) rfl rfl (Nat.le_of_ble_eq_true rfl) (e_J6_bitCount_0f7a4 he1) dX3_planRole_1 ?_
  refine v_istore o [(4, .int r2), (0, .ref (z_w q a0)), (1, .int a1), (2, .int a2), (3, .int a3)] dX3_planRole_4 (by decide) rfl ?_
  refine v_iload_n o dX3_planRole_6 rfl 2 rfl ?_
  refine v_if_lt o 32 dX3_planRole_7 (by decide) (fun c3 => ?_) (fun c3 => ?_)
  · replace h := z_ip c3 h
    refine v_iconst o (-1 : Int32) dX3_planRole_32 (by decide) ?_
    obtain ⟨hr, hs⟩ := Prod.mk.inj (z_some h)
    subst hr
    subst hs
    exact v_ireturn o dX3_planRole_33
  · replace h := z_in c3 h
    refine v_iload_n o dX3_planRole_10 rfl 2 rfl ?_
    refine v_iconst o (4 : Int32) dX3_planRole_11 (by decide) ?_
    refine v_icmp_ge o 32 dX3_planRole_12 (by decide) (fun c4 => ?_) (fun c4 => ?_)
    · replace h := z_ip c4 h
      refine v_iconst o (-1 : Int32) dX3_planRole_32 (by decide) ?_
      obtain ⟨hr, hs⟩ := Prod.mk.inj (z_some h)
      subst hr
      subst hs
      exact v_ireturn o dX3_planRole_33
    · replace h := z_in c4 h
      refine v_iload_n o dX3_planRole_15 rfl 3 rfl ?_
      refine v_iconst o (1 : Int32) dX3_planRole_16 (by decide) ?_
      refine v_icmp_lt o 32 dX3_planRole_17 (by decide) (fun c5 => ?_) (fun c5 => ?_)
      · replace h := z_ip c5 h
        refine v_iconst o (-1 : Int32) dX3_planRole_32 (by decide) ?_
        obtain ⟨hr, hs⟩ := Prod.mk.inj (z_some h)
        subst hr
        subst hs
        exact v_ireturn o dX3_planRole_33
      · replace h := z_in c5 h
        refine v_iload_n o dX3_planRole_20 rfl 3 rfl ?_
        refine v_ldc o ln_3_89 dX3_planRole_21 ?_
        refine v_icmp_ge o 32 dX3_planRole_23 (by decide) (fun c6 => ?_) (fun c6 => ?_)
        · replace h := z_ip c6 h
          refine v_iconst o (-1 : Int32) dX3_planRole_32 (by decide) ?_
          obtain ⟨hr, hs⟩ := Prod.mk.inj (z_some h)
          subst hr
          subst hs
          exact v_ireturn o dX3_planRole_33
        · replace h := z_in c6 h
          refine v_iload o dX3_planRole_26 0 rfl ?_
          refine v_iconst o (5 : Int32) dX3_planRole_28 (by decide) ?_
          refine v_icmp_le o 34 dX3_planRole_29 (by decide) (fun c7 => ?_) (fun c7 => ?_)
          · replace h := z_ip c7 h
            refine v_iload_n o dX3_planRole_34 rfl 4 rfl ?_
            refine v_iconst o (1 : Int32) dX3_planRole_35 (by decide) ?_
            refine v_icmp_lt o 45 dX3_planRole_36 (by decide) (fun c8 => ?_) (fun c8 => ?_)
            · replace h := z_ip c8 h
              refine v_iconst o (-1 : Int32) dX3_planRole_45 (by decide) ?_
              obtain ⟨hr, hs⟩ := Prod.mk.inj (z_some h)
              subst hr
              subst hs
              exact v_ireturn o dX3_planRole_46
            · replace h := z_in c8 h
              refine v_iload_n o dX3_planRole_39 rfl 4 rfl ?_
              refine v_iload o dX3_planRole_40 0 rfl ?_
              refine v_icmp_le o 47 dX3_planRole_42 (by decide) (fun c9 => ?_) (fun c9 => ?_)
              · replace h := z_ip c9 h
                refine v_aload_n o dX3_planRole_47 rfl 1 rfl ?_
                obtain ⟨n10, h⟩ := z_gK_of h
                refine gt_3_1 o hK0 ln_1_83 (by rw [n10]; decide) dX3_planRole_48 ?_
                refine v_iload_n o dX3_planRole_51 rfl 2 rfl ?_
                refine v_iload_n o dX3_planRole_52 rfl 3 rfl ?_
                obtain ⟨n11, n12, h⟩ := z_gA_of h
                refine v_iast o n11 n12 dX3_planRole_53 ?_
                refine v_aload_n o dX3_planRole_54 rfl 1 rfl ?_
                obtain ⟨n13, h⟩ := z_gK_of h
                refine gt_3_2 o hK0 ln_1_84 (by rw [n13]; decide) dX3_planRole_55 ?_
                refine v_iload_n o dX3_planRole_58 rfl 2 rfl ?_
                refine v_iload_n o dX3_planRole_59 rfl 4 rfl ?_
                obtain ⟨n14, n15, h⟩ := z_gA_of h
                refine v_iast o n14 n15 dX3_planRole_60 ?_
                refine v_iconst o (1 : Int32) dX3_planRole_61 (by decide) ?_
                obtain ⟨hr, hs⟩ := Prod.mk.inj (z_some h)
                subst hr
                subst hs
                exact v_ireturn o dX3_planRole_62
              · replace h := z_in c9 h
                refine v_iconst o (-1 : Int32) dX3_planRole_45 (by decide) ?_
                obtain ⟨hr, hs⟩ := Prod.mk.inj (z_some h)
                subst hr
                subst hs
                exact v_ireturn o dX3_planRole_46
          · replace h := z_in c7 h
            refine v_iconst o (-1 : Int32) dX3_planRole_32 (by decide) ?_
            obtain ⟨hr, hs⟩ := Prod.mk.inj (z_some h)
            subst hr
            subst hs
            exact v_ireturn o dX3_planRole_33
theorem e_X3_planRole {q : z_Q} {l : Launch} {G : z_G} {D : z_D} {a0 : Nat} {a1 : Int32} {a2 : Int32} {a3 : Int32} {r : Int32} {D1 : z_D} (hK0 : z_K G a0 = 103) (h : f_X3_planRole G D a0 a1 a2 a3 = some (r, D1)) : z_E q l yX3_planRole cX3_planRole 5 (some .int) 1 0 0 [.ref (z_w q a0), .int a1, .int a2, .int a3] G D (some (.int r)) G D1 :=
  z_E.of (by decide) (Nat.le_of_ble_eq_true rfl) (fun X hX _ o => b_X3_planRole o hX hK0 h)
def p_X3_addProgram_11 (q : z_Q) (X : z_X) (Q : State → Prop) (G : z_G) (a1 : Nat) (a4 : Int32) (a5 : Int32) : (z_D × Int32) → Prop := (fun v => z_V q X 7 Q 0 0 G v.1 11 [(1, .ref (z_w q a1)), (4, .int a4), (5, .int a5), (6, .int v.2)] [])
def x_X3_addProgram_11 (q : z_Q) (X : z_X) (Q : State → Prop) (G : z_G) (a1 : Nat) (a4 : Int32) (a5 : Int32) : z_D → Prop := (fun v => z_V q X 7 Q 0 0 G v 45 [] [])
def k_X3_addProgram_11 (q : z_Q) (X : z_X) (Q : State → Prop) (G : z_G) (a1 : Nat) (a4 : Int32) (a5 : Int32) : (z_D × Int32) ⊕ z_D → Prop := Sum.elim (p_X3_addProgram_11 q X Q G a1 a4 a5) (x_X3_addProgram_11 q X Q G a1 a4 a5)
def c_X3_addProgram_11 (G : z_G) (D : z_D) (a1 : Nat) (a4 : Int32) (a5 : Int32) (a6 : Int32) : Option ((z_D × Int32) ⊕ z_D) :=
  (if a4 ≤ a6 then (some (.inr D)) else (z_gK G 105 a1 ((f_X5_add G D a1 ((a5 + ((7 : Int32) * a6)) + ((a6 >>> ((6 : Int32) &&& 31)) * a5))).bind (fun D7 => ((some (.inl (D7, (a6 + (1 : Int32))))))))))
set_option maxRecDepth 100000 in
set_option maxHeartbeats 4000000 in
theorem tc_X3_addProgram_11 {q : z_Q} {X : z_X} {G : z_G} {D : z_D} {Q : State → Prop} {a1 : Nat} {a4 : Int32} {a5 : Int32} {a6 : Int32} (o : z_O q X cX3_addProgram 7 "FlashTrust$Maker" "addProgram" none) (hX : x_R X = z_rm 1 0 0)  {ρ : (z_D × Int32) ⊕ z_D} (h : c_X3_addProgram_11 G D a1 a4 a5 a6 = some ρ) (hk : k_X3_addProgram_11 q X Q G a1 a4 a5 ρ) : z_V q X 7 Q 0 0 G D 11 [(1, .ref (z_w q a1)), (4, .int a4), (5, .int a5), (6, .int a6)] [] := by
  unfold c_X3_addProgram_11 at h
  refine v_iload o dX3_addProgram_11 3 rfl ?_
  refine v_iload o dX3_addProgram_13 1 rfl ?_
  refine v_icmp_ge o 45 dX3_addProgram_15 (by decide) (fun c4 => ?_) (fun c4 => ?_)
  · replace h := z_ip c4 h
    obtain rfl := z_some h
    refine v_sub [] rfl ?_
    exact hk
  · replace h := z_in c4 h
    refine v_aload_n o dX3_addProgram_18 rfl 0 rfl ?_
    refine v_iload o dX3_addProgram_19 2 rfl ?_
    refine v_bipush o (7 : Int32) dX3_addProgram_21 (by decide) ?_
    refine v_iload o dX3_addProgram_23 3 rfl ?_
    refine v_imul o dX3_addProgram_25 ?_
    refine v_iadd o dX3_addProgram_26 ?_
    refine v_iload o dX3_addProgram_27 3 rfl ?_
    refine v_bipush o (6 : Int32) dX3_addProgram_29 (by decide) ?_
    refine v_ishr o dX3_addProgram_31 ?_
    refine v_iload o dX3_addProgram_32 2 rfl ?_
    refine v_imul o dX3_addProgram_34 ?_
    refine v_iadd o dX3_addProgram_35 ?_
    obtain ⟨n5, h⟩ := z_gK_of h
    obtain ⟨D7, he6, h⟩ := z_bind h
    refine v_callV o yw_X5_add ln_3_104 wi_X5_add ws_X5_add hX (by decide) 5 rfl n5 (As := [.int ((a5 + ((7 : Int32) * a6)) + ((a6 >>> ((6 : Int32) &&& 31)) * a5))]) rfl rfl (Nat.le_of_ble_eq_true rfl) (e_X5_add n5 he6) dX3_addProgram_36 ?_
    refine v_iinc o (a6 + (1 : Int32)) [(6, .int (a6 + (1 : Int32))), (1, .ref (z_w q a1)), (4, .int a4), (5, .int a5)] dX3_addProgram_39 3 rfl rfl (by decide) rfl ?_
    refine v_goto o 11 dX3_addProgram_42 (by decide) ?_
    obtain rfl := z_some h
    refine v_sub [1, 2, 3, 0] rfl ?_
    exact hk
def f_X3_addProgram (G : z_G) (D : z_D) (a0 : Nat) (a1 : Nat) (a2 : Int32) (a3 : Int32) (a4 : Int32) : Option (z_D) :=
  z_gK G 1 (z_R G 306 a0) (z_gA G 1 (z_R G 306 a0) a2 (((z_loop (fun v => c_X3_addProgram_11 G v.1 a1 a4 (z_U D (z_R G 306 a0) (a2).toNatClampNeg) v.2) 4000 (D, a3)).bind (fun e8 => (some e8)))))
set_option maxRecDepth 100000 in
set_option maxHeartbeats 4000000 in
theorem b_X3_addProgram {q : z_Q} {X : z_X} {G : z_G} {D : z_D} {a0 : Nat} {a1 : Nat} {a2 : Int32} {a3 : Int32} {a4 : Int32}  {D1 : z_D} (o : z_O q X cX3_addProgram 7 "FlashTrust$Maker" "addProgram" none) (hX : x_R X = z_rm 1 0 0) (hK0 : z_K G a0 = 103) (h : f_X3_addProgram G D a0 a1 a2 a3 a4 = some D1) : z_V q X 7 (z_F q X none G D1 0 0) 0 0 G D 0 [(0, .ref (z_w q a0)), (1, .ref (z_w q a1)), (2, .int a2), (3, .int a3), (4, .int a4)] [] := by
  unfold f_X3_addProgram at h
  refine v_aload_n o dX3_addProgram_0 rfl 0 rfl ?_
  obtain ⟨n1, h⟩ := z_gK_of h
  refine gt_3_6 o hK0 ln_1_88 (by rw [n1]; decide) dX3_addProgram_1 ?_
  refine v_iload_n o dX3_addProgram_4 rfl 2 rfl ?_
  obtain ⟨n2, n3, h⟩ := z_gA_of h
  refine v_iald o n2 n3 dX3_addProgram_5 ?_
  refine v_istore o [(5, .int (z_U D (z_R G 306 a0) (a2).toNatClampNeg)), (0, .ref (z_w q a0)), (1, .ref (z_w q a1)), (2, .int a2), (3, .int a3), (4, .int a4)] dX3_addProgram_6 (by decide) rfl ?_
  refine v_iload_n o dX3_addProgram_8 rfl 4 rfl ?_
  refine v_istore o [(6, .int a3), (5, .int (z_U D (z_R G 306 a0) (a2).toNatClampNeg)), (0, .ref (z_w q a0)), (1, .ref (z_w q a1)), (2, .int a2), (3, .int a3), (4, .int a4)] dX3_addProgram_9 (by decide) rfl ?_
  refine v_sub [3, 6, 1, 0] rfl ?_
  obtain ⟨e8, he9, h⟩ := z_bind h
  refine z_loopV (P := p_X3_addProgram_11 q X _ G a1 a4 (z_U D (z_R G 306 a0) (a2).toNatClampNeg)) (E := x_X3_addProgram_11 q X _ G a1 a4 (z_U D (z_R G 306 a0) (a2).toNatClampNeg)) (fun v ρ hb hk => tc_X3_addProgram_11 (D := v.1) (a1 := a1) (a4 := a4) (a5 := (z_U D (z_R G 306 a0) (a2).toNatClampNeg)) (a6 := v.2) o hX hb hk) 4000 _ e8 he9 ?_
  show z_V q X 7 _ _ _ G e8 45 [] []
  have hr := z_some h
  subst hr
  exact v_return o dX3_addProgram_45
theorem e_X3_addProgram {q : z_Q} {l : Launch} {G : z_G} {D : z_D} {a0 : Nat} {a1 : Nat} {a2 : Int32} {a3 : Int32} {a4 : Int32}  {D1 : z_D} (hK0 : z_K G a0 = 103) (h : f_X3_addProgram G D a0 a1 a2 a3 a4 = some D1) : z_E q l yX3_addProgram cX3_addProgram 7 none 1 0 0 [.ref (z_w q a0), .ref (z_w q a1), .int a2, .int a3, .int a4] G D none G D1 :=
  z_E.of (by decide) (Nat.le_of_ble_eq_true rfl) (fun X hX _ o => b_X3_addProgram o hX hK0 h)
def j_X3_addImage_30 (G : z_G) (D : z_D) (a0 : Nat) (a1 : Int32) (a2 : Int32) (a3 : Int32) (s0 : Int32) : Option (Int32 × z_D) :=
  (if a1 ≤ s0 then ((some ((-1 : Int32), D))) else ((if (65535 : Int32) < a1 then ((some ((-1 : Int32), D))) else ((if a2 < (1 : Int32) then ((some ((-1 : Int32), D))) else ((if a2 ≤ (1024 : Int32) then ((if (z_I D 303 a0) < (4 : Int32) then (z_gK G 1 (z_R G 304 a0) (z_gA G 1 (z_R G 304 a0) (z_I D 303 a0) (z_gK G 1 (z_R G 305 a0) (z_gA G 1 (z_R G 305 a0) (z_I (z_sU D (z_R G 304 a0) ((z_I D 303 a0)).toNatClampNeg a1) 303 a0) (z_gK G 1 (z_R G 306 a0) (z_gA G 1 (z_R G 306 a0) (z_I (z_sU (z_sU D (z_R G 304 a0) ((z_I D 303 a0)).toNatClampNeg a1) (z_R G 305 a0) ((z_I (z_sU D (z_R G 304 a0) ((z_I D 303 a0)).toNatClampNeg a1) 303 a0)).toNatClampNeg a2) 303 a0) (z_gK G 105 (z_R G 308 a0) ((f_X5_empty G (z_sU (z_sU (z_sU D (z_R G 304 a0) ((z_I D 303 a0)).toNatClampNeg a1) (z_R G 305 a0) ((z_I (z_sU D (z_R G 304 a0) ((z_I D 303 a0)).toNatClampNeg a1) 303 a0)).toNatClampNeg a2) (z_R G 306 a0) ((z_I (z_sU (z_sU D (z_R G 304 a0) ((z_I D 303 a0)).toNatClampNeg a1) (z_R G 305 a0) ((z_I (z_sU D (z_R G 304 a0) ((z_I D 303 a0)).toNatClampNeg a1) 303 a0)).toNatClampNeg a2) 303 a0)).toNatClampNeg a3) (z_R G 308 a0)).bind (fun D18 => ((f_X3_addProgram G D18 a0 (z_R G 308 a0) (z_I D18 303 a0) (0 : Int32) a2).bind (fun D20 => (z_gK G 2 (z_R G 307 a0) ((f_X5_hash G D20 (z_R G 308 a0) (0 : Int32) a2).bind (fun r23 => (z_gA G 2 (z_R G 307 a0) (z_I D20 303 a0) ((some ((z_I (z_sI (z_sY D20 (z_R G 307 a0) ((z_I D20 303 a0)).toNatClampNeg r23) 303 a0 ((z_I (z_sY D20 (z_R G 307 a0) ((z_I D20 303 a0)).toNatClampNeg r23) 303 a0) + (1 : Int32))) 303 a0), (z_sI (z_sY D20 (z_R G 307 a0) ((z_I D20 303 a0)).toNatClampNeg r23) 303 a0 ((z_I (z_sY D20 (z_R G 307 a0) ((z_I D20 303 a0)).toNatClampNeg r23) 303 a0) + (1 : Int32))))))))))))))))))))) else ((some ((-5 : Int32), D))))) else ((some ((-1 : Int32), D))))))))))
set_option maxRecDepth 100000 in
set_option maxHeartbeats 4000000 in
theorem tj_X3_addImage_30 {q : z_Q} {X : z_X} {G : z_G} {D : z_D} {a0 : Nat} {a1 : Int32} {a2 : Int32} {a3 : Int32} {s0 : Int32} {r : Int32} {D1 : z_D} (o : z_O q X cX3_addImage 5 "FlashTrust$Maker" "addImage" (some .int)) (hX : x_R X = z_rm 2 0 0) (hK0 : z_K G a0 = 103) (h : j_X3_addImage_30 G D a0 a1 a2 a3 s0 = some (r, D1)) : z_V q X 5 (z_F q X (some (.int r)) G D1 0 0) 0 0 G D 30 [(0, .ref (z_w q a0)), (1, .int a1), (2, .int a2), (3, .int a3)] [.int s0] := by
  unfold j_X3_addImage_30 at h
  refine v_istore o [(4, .int s0), (0, .ref (z_w q a0)), (1, .int a1), (2, .int a2), (3, .int a3)] dX3_addImage_30 (by decide) rfl ?_
  refine v_iload_n o dX3_addImage_32 rfl 2 rfl ?_
  refine v_iload o dX3_addImage_33 0 rfl ?_
  refine v_icmp_le o 56 dX3_addImage_35 (by decide) (fun c2 => ?_) (fun c2 => ?_)
  · replace h := z_ip c2 h
    refine v_iconst o (-1 : Int32) dX3_addImage_56 (by decide) ?_
    obtain ⟨hr, hs⟩ := Prod.mk.inj (z_some h)
    subst hr
    subst hs
    exact v_ireturn o dX3_addImage_57
  · replace h := z_in c2 h
    refine v_iload_n o dX3_addImage_38 rfl 2 rfl ?_
    refine v_ldc o ln_3_98 dX3_addImage_39 ?_
    refine v_icmp_gt o 56 dX3_addImage_41 (by decide) (fun c3 => ?_) (fun c3 => ?_)
    · replace h := z_ip c3 h
      refine v_iconst o (-1 : Int32) dX3_addImage_56 (by decide) ?_
      obtain ⟨hr, hs⟩ := Prod.mk.inj (z_some h)
      subst hr
      subst hs
      exact v_ireturn o dX3_addImage_57
    · replace h := z_in c3 h
      refine v_iload_n o dX3_addImage_44 rfl 3 rfl ?_
      refine v_iconst o (1 : Int32) dX3_addImage_45 (by decide) ?_
      refine v_icmp_lt o 56 dX3_addImage_46 (by decide) (fun c4 => ?_) (fun c4 => ?_)
      · replace h := z_ip c4 h
        refine v_iconst o (-1 : Int32) dX3_addImage_56 (by decide) ?_
        obtain ⟨hr, hs⟩ := Prod.mk.inj (z_some h)
        subst hr
        subst hs
        exact v_ireturn o dX3_addImage_57
      · replace h := z_in c4 h
        refine v_iload_n o dX3_addImage_49 rfl 3 rfl ?_
        refine v_sipush o (1024 : Int32) dX3_addImage_50 (by decide) ?_
        refine v_icmp_le o 58 dX3_addImage_53 (by decide) (fun c5 => ?_) (fun c5 => ?_)
        · replace h := z_ip c5 h
          refine v_aload_n o dX3_addImage_58 rfl 1 rfl ?_
          refine gt_3_3 o hK0 ln_1_85 dX3_addImage_59 ?_
          refine v_iconst o (4 : Int32) dX3_addImage_62 (by decide) ?_
          refine v_icmp_lt o 69 dX3_addImage_63 (by decide) (fun c6 => ?_) (fun c6 => ?_)
          · replace h := z_ip c6 h
            refine v_aload_n o dX3_addImage_69 rfl 1 rfl ?_
            obtain ⟨n7, h⟩ := z_gK_of h
            refine gt_3_4 o hK0 ln_1_86 (by rw [n7]; decide) dX3_addImage_70 ?_
            refine v_aload_n o dX3_addImage_73 rfl 1 rfl ?_
            refine gt_3_3 o hK0 ln_1_85 dX3_addImage_74 ?_
            refine v_iload_n o dX3_addImage_77 rfl 2 rfl ?_
            obtain ⟨n8, n9, h⟩ := z_gA_of h
            refine v_iast o n8 n9 dX3_addImage_78 ?_
            refine v_aload_n o dX3_addImage_79 rfl 1 rfl ?_
            obtain ⟨n10, h⟩ := z_gK_of h
            refine gt_3_5 o hK0 ln_1_87 (by rw [n10]; decide) dX3_addImage_80 ?_
            refine v_aload_n o dX3_addImage_83 rfl 1 rfl ?_
            refine gt_3_3 o hK0 ln_1_85 dX3_addImage_84 ?_
            refine v_iload_n o dX3_addImage_87 rfl 3 rfl ?_
            obtain ⟨n11, n12, h⟩ := z_gA_of h
            refine v_iast o n11 n12 dX3_addImage_88 ?_
            refine v_aload_n o dX3_addImage_89 rfl 1 rfl ?_
            obtain ⟨n13, h⟩ := z_gK_of h
            refine gt_3_6 o hK0 ln_1_88 (by rw [n13]; decide) dX3_addImage_90 ?_
            refine v_aload_n o dX3_addImage_93 rfl 1 rfl ?_
            refine gt_3_3 o hK0 ln_1_85 dX3_addImage_94 ?_
            refine v_iload_n o dX3_addImage_97 rfl 4 rfl ?_
            obtain ⟨n14, n15, h⟩ := z_gA_of h
            refine v_iast o n14 n15 dX3_addImage_98 ?_
            refine v_aload_n o dX3_addImage_99 rfl 1 rfl ?_
            obtain ⟨n16, h⟩ := z_gK_of h
            refine gt_3_8 o hK0 ln_1_90 (by rw [n16]; decide) dX3_addImage_100 ?_
            obtain ⟨D18, he17, h⟩ := z_bind h
            refine v_callV o yw_X5_empty ln_3_99 wi_X5_empty ws_X5_empty hX (by decide) 5 rfl n16 (As := []) rfl rfl (Nat.le_of_ble_eq_true rfl) (e_X5_empty n16 he17) dX3_addImage_103 ?_
            refine v_aload_n o dX3_addImage_106 rfl 1 rfl ?_
            refine v_aload_n o dX3_addImage_107 rfl 1 rfl ?_
            refine gt_3_8 o hK0 ln_1_90 (by rw [n16]; decide) dX3_addImage_108 ?_
            refine v_aload_n o dX3_addImage_111 rfl 1 rfl ?_
            refine gt_3_3 o hK0 ln_1_85 dX3_addImage_112 ?_
            refine v_iconst o (0 : Int32) dX3_addImage_115 (by decide) ?_
            refine v_iload_n o dX3_addImage_116 rfl 3 rfl ?_
            obtain ⟨D20, he19, h⟩ := z_bind h
            refine v_callV o yw_X3_addProgram ln_3_100 wi_X3_addProgram ws_X3_addProgram hX (by decide) 3 rfl hK0 (As := [.ref (z_w q (z_R G 308 a0)), .int (z_I D18 303 a0), .int (0 : Int32), .int a2]) rfl rfl (Nat.le_of_ble_eq_true rfl) (e_X3_addProgram hK0 he19) dX3_addImage_117 ?_
            refine v_aload_n o dX3_addImage_120 rfl 1 rfl ?_
            obtain ⟨n21, h⟩ := z_gK_of h
            refine gt_3_7 o hK0 ln_1_89 (by rw [n21]; decide) dX3_addImage_121 ?_
            refine v_aload_n o dX3_addImage_124 rfl 1 rfl ?_
            refine gt_3_3 o hK0 ln_1_85 dX3_addImage_125 ?_
            refine v_aload_n o dX3_addImage_128 rfl 1 rfl ?_
            refine gt_3_8 o hK0 ln_1_90 (by rw [n16]; decide) dX3_addImage_129 ?_
            refine v_iconst o (0 : Int32) dX3_addImage_132 (by decide) ?_
            refine v_iload_n o dX3_addImage_133 rfl 3 rfl ?_
            obtain ⟨r23, he22, h⟩ := z_bind h
            refine v_callV o yw_X5_hash ln_3_105 wi_X5_hash ws_X5_hash hX (by decide) 5 rfl n16 (As := [.int (0 : Int32), .int a2]) rfl rfl (Nat.le_of_ble_eq_true rfl) (e_X5_hash n16 he22) dX3_addImage_134 ?_
            obtain ⟨n24, n25, h⟩ := z_gA_of h
            refine v_last o n24 n25 dX3_addImage_137 ?_
            refine v_aload_n o dX3_addImage_138 rfl 1 rfl ?_
            refine v_dup o dX3_addImage_139 rfl ?_
            refine gt_3_3 o hK0 ln_1_85 dX3_addImage_140 ?_
            refine v_iconst o (1 : Int32) dX3_addImage_143 (by decide) ?_
            refine v_iadd o dX3_addImage_144 ?_
            refine pt_3_3 o hK0 ln_1_85 dX3_addImage_145 ?_
            refine v_aload_n o dX3_addImage_148 rfl 1 rfl ?_
            refine gt_3_3 o hK0 ln_1_85 dX3_addImage_149 ?_
            obtain ⟨hr, hs⟩ := Prod.mk.inj (z_some h)
            subst hr
            subst hs
            exact v_ireturn o dX3_addImage_152
          · replace h := z_in c6 h
            refine v_bipush o (-5 : Int32) dX3_addImage_66 (by decide) ?_
            obtain ⟨hr, hs⟩ := Prod.mk.inj (z_some h)
            subst hr
            subst hs
            exact v_ireturn o dX3_addImage_68
        · replace h := z_in c5 h
          refine v_iconst o (-1 : Int32) dX3_addImage_56 (by decide) ?_
          obtain ⟨hr, hs⟩ := Prod.mk.inj (z_some h)
          subst hr
          subst hs
          exact v_ireturn o dX3_addImage_57
def j_X3_addImage_29 (G : z_G) (D : z_D) (a0 : Nat) (a1 : Int32) (a2 : Int32) (a3 : Int32)  : Option (Int32 × z_D) :=
  (j_X3_addImage_30 G D  a0 a1 a2 a3 (0 : Int32))
set_option maxRecDepth 100000 in
set_option maxHeartbeats 4000000 in
theorem tj_X3_addImage_29 {q : z_Q} {X : z_X} {G : z_G} {D : z_D} {a0 : Nat} {a1 : Int32} {a2 : Int32} {a3 : Int32}  {r : Int32} {D1 : z_D} (o : z_O q X cX3_addImage 5 "FlashTrust$Maker" "addImage" (some .int)) (hX : x_R X = z_rm 2 0 0) (hK0 : z_K G a0 = 103) (h : j_X3_addImage_29 G D a0 a1 a2 a3  = some (r, D1)) : z_V q X 5 (z_F q X (some (.int r)) G D1 0 0) 0 0 G D 29 [(0, .ref (z_w q a0)), (1, .int a1), (2, .int a2), (3, .int a3)] [] := by
  unfold j_X3_addImage_29 at h
  refine v_iconst o (0 : Int32) dX3_addImage_29 (by decide) ?_
  exact tj_X3_addImage_30 o hX hK0 h
def f_X3_addImage (G : z_G) (D : z_D) (a0 : Nat) (a1 : Int32) (a2 : Int32) (a3 : Int32) : Option (Int32 × z_D) :=
  (if (z_I D 303 a0) ≤ (0 : Int32) then (j_X3_addImage_29 G D  a0 a1 a2 a3) else ((if (4 : Int32) < (z_I D 303 a0) then (j_X3_addImage_29 G D  a0 a1 a2 a3) else (z_gK G 1 (z_R G 304 a0) (z_gA G 1 (z_R G 304 a0) ((z_I D 303 a0) - (1 : Int32)) ((j_X3_addImage_30 G D  a0 a1 a2 a3 (z_U D (z_R G 304 a0) (((z_I D 303 a0) - (1 : Int32))).toNatClampNeg))))))))
set_option maxRecDepth 100000 in
set_option maxHeartbeats 4000000 in
theorem b_X3_addImage {q : z_Q} {X : z_X} {G : z_G} {D : z_D} {a0 : Nat} {a1 : Int32} {a2 : Int32} {a3 : Int32} {r : Int32} {D1 : z_D} (o : z_O q X cX3_addImage 5 "FlashTrust$Maker" "addImage" (some .int)) (hX : x_R X = z_rm 2 0 0) (hK0 : z_K G a0 = 103) (h : f_X3_addImage G D a0 a1 a2 a3 = some (r, D1)) : z_V q X 5 (z_F q X (some (.int r)) G D1 0 0) 0 0 G D 0 [(0, .ref (z_w q a0)), (1, .int a1), (2, .int a2), (3, .int a3)] [] := by
  unfold f_X3_addImage at h
  refine v_aload_n o dX3_addImage_0 rfl 0 rfl ?_
  refine gt_3_3 o hK0 ln_1_85 dX3_addImage_1 ?_
  refine v_if_le o 29 dX3_addImage_4 (by decide) (fun c1 => ?_) (fun c1 => ?_)
  · replace h := z_ip c1 h
    exact tj_X3_addImage_29 o hX hK0 h
  · replace h := z_in c1 h
    refine v_aload_n o dX3_addImage_7 rfl 0 rfl ?_
    refine gt_3_3 o hK0 ln_1_85 dX3_addImage_8 ?_
    refine v_iconst o (4 : Int32) dX3_addImage_11 (by decide) ?_
    refine v_icmp_gt o 29 dX3_addImage_12 (by decide) (fun c26 => ?_) (fun c26 => ?_)
    · replace h := z_ip c26 h
      exact tj_X3_addImage_29 o hX hK0 h
    · replace h := z_in c26 h
      refine v_aload_n o dX3_addImage_15 rfl 0 rfl ?_
      obtain ⟨n27, h⟩ := z_gK_of h
      refine gt_3_4 o hK0 ln_1_86 (by rw [n27]; decide) dX3_addImage_16 ?_
      refine v_aload_n o dX3_addImage_19 rfl 0 rfl ?_
      refine gt_3_3 o hK0 ln_1_85 dX3_addImage_20 ?_
      refine v_iconst o (1 : Int32) dX3_addImage_23 (by decide) ?_
      refine v_isub o dX3_addImage_24 ?_
      obtain ⟨n28, n29, h⟩ := z_gA_of h
      refine v_iald o n28 n29 dX3_addImage_25 ?_
      refine v_goto o 30 dX3_addImage_26 (by decide) ?_
      exact tj_X3_addImage_30 o hX hK0 h
theorem e_X3_addImage {q : z_Q} {l : Launch} {G : z_G} {D : z_D} {a0 : Nat} {a1 : Int32} {a2 : Int32} {a3 : Int32} {r : Int32} {D1 : z_D} (hK0 : z_K G a0 = 103) (h : f_X3_addImage G D a0 a1 a2 a3 = some (r, D1)) : z_E q l yX3_addImage cX3_addImage 5 (some .int) 2 0 0 [.ref (z_w q a0), .int a1, .int a2, .int a3] G D (some (.int r)) G D1 :=
  z_E.of (by decide) (Nat.le_of_ble_eq_true rfl) (fun X hX _ o => b_X3_addImage o hX hK0 h)
def f_X3_dropImages (G : z_G) (D : z_D) (a0 : Nat) : Option (Int32 × z_D) :=
  (some ((z_I D 303 a0), (z_sI D 303 a0 (0 : Int32))))
set_option maxRecDepth 100000 in
set_option maxHeartbeats 4000000 in
theorem b_X3_dropImages {q : z_Q} {X : z_X} {G : z_G} {D : z_D} {a0 : Nat} {r : Int32} {D1 : z_D} (o : z_O q X cX3_dropImages 2 "FlashTrust$Maker" "dropImages" (some .int)) (hX : x_R X = z_rm 0 0 0) (hK0 : z_K G a0 = 103) (h : f_X3_dropImages G D a0 = some (r, D1)) : z_V q X 2 (z_F q X (some (.int r)) G D1 0 0) 0 0 G D 0 [(0, .ref (z_w q a0))] [] := by
  unfold f_X3_dropImages at h
  refine v_aload_n o dX3_dropImages_0 rfl 0 rfl ?_
  refine gt_3_3 o hK0 ln_1_85 dX3_dropImages_1 ?_
  refine v_istore_n o [(1, .int (z_I D 303 a0)), (0, .ref (z_w q a0))] dX3_dropImages_4 rfl (by decide) rfl ?_
  refine v_aload_n o dX3_dropImages_5 rfl 1 rfl ?_
  refine v_iconst o (0 : Int32) dX3_dropImages_6 (by decide) ?_
  refine pt_3_3 o hK0 ln_1_85 dX3_dropImages_7 ?_
  refine v_iload_n o dX3_dropImages_10 rfl 0 rfl ?_
  obtain ⟨hr, hs⟩ := Prod.mk.inj (z_some h)
  subst hr
  subst hs
  exact v_ireturn o dX3_dropImages_11
theorem e_X3_dropImages {q : z_Q} {l : Launch} {G : z_G} {D : z_D} {a0 : Nat} {r : Int32} {D1 : z_D} (hK0 : z_K G a0 = 103) (h : f_X3_dropImages G D a0 = some (r, D1)) : z_E q l yX3_dropImages cX3_dropImages 2 (some .int) 0 0 0 [.ref (z_w q a0)] G D (some (.int r)) G D1 :=
  z_E.of (by decide) (Nat.le_of_ble_eq_true rfl) (fun X hX _ o => b_X3_dropImages o hX hK0 h)
def p_X3_addRoles_2 (q : z_Q) (X : z_X) (Q : State → Prop) (G : z_G) (a0 : Nat) : (z_D × Int32) → Prop := (fun v => z_V q X 2 Q 0 0 G v.1 2 [(0, .ref (z_w q a0)), (1, .int v.2)] [])
def x_X3_addRoles_2 (q : z_Q) (X : z_X) (Q : State → Prop) (G : z_G) (a0 : Nat) : z_D → Prop := (fun v => z_V q X 2 Q 0 0 G v 39 [] [])
def k_X3_addRoles_2 (q : z_Q) (X : z_X) (Q : State → Prop) (G : z_G) (a0 : Nat) : (z_D × Int32) ⊕ z_D → Prop := Sum.elim (p_X3_addRoles_2 q X Q G a0) (x_X3_addRoles_2 q X Q G a0)
def c_X3_addRoles_2 (G : z_G) (D : z_D) (a0 : Nat) (a1 : Int32) : Option ((z_D × Int32) ⊕ z_D) :=
  (if (4 : Int32) ≤ a1 then (some (.inr D)) else (z_gK G 105 (z_R G 309 a0) (z_gK G 1 (z_R G 302 a0) (z_gA G 1 (z_R G 302 a0) a1 ((f_X5_add G D (z_R G 309 a0) (z_U D (z_R G 302 a0) (a1).toNatClampNeg)).bind (fun D7 => (z_gK G 1 (z_R G 301 a0) (z_gA G 1 (z_R G 301 a0) a1 ((f_X5_addKeys G D7 (z_R G 309 a0) (z_U D7 (z_R G 301 a0) (a1).toNatClampNeg)).bind (fun D12 => ((some (.inl (D12, (a1 + (1 : Int32))))))))))))))))
set_option maxRecDepth 100000 in
set_option maxHeartbeats 4000000 in
theorem tc_X3_addRoles_2 {q : z_Q} {X : z_X} {G : z_G} {D : z_D} {Q : State → Prop} {a0 : Nat} {a1 : Int32} (o : z_O q X cX3_addRoles 2 "FlashTrust$Maker" "addRoles" none) (hX : x_R X = z_rm 2 0 0) (hK0 : z_K G a0 = 103) {ρ : (z_D × Int32) ⊕ z_D} (h : c_X3_addRoles_2 G D a0 a1 = some ρ) (hk : k_X3_addRoles_2 q X Q G a0 ρ) : z_V q X 2 Q 0 0 G D 2 [(0, .ref (z_w q a0)), (1, .int a1)] [] := by
  unfold c_X3_addRoles_2 at h
  refine v_iload_n o dX3_addRoles_2 rfl 1 rfl ?_
  refine v_iconst o (4 : Int32) dX3_addRoles_3 (by decide) ?_
  refine v_icmp_ge o 39 dX3_addRoles_4 (by decide) (fun c1 => ?_) (fun c1 => ?_)
  · replace h := z_ip c1 h
    obtain rfl := z_some h
    refine v_sub [] rfl ?_
    exact hk
  · replace h := z_in c1 h
    refine v_aload_n o dX3_addRoles_7 rfl 0 rfl ?_
    obtain ⟨n2, h⟩ := z_gK_of h
    refine gt_3_9 o hK0 ln_1_91 (by rw [n2]; decide) dX3_addRoles_8 ?_
    refine v_aload_n o dX3_addRoles_11 rfl 0 rfl ?_
    obtain ⟨n3, h⟩ := z_gK_of h
    refine gt_3_2 o hK0 ln_1_84 (by rw [n3]; decide) dX3_addRoles_12 ?_
    refine v_iload_n o dX3_addRoles_15 rfl 1 rfl ?_
    obtain ⟨n4, n5, h⟩ := z_gA_of h
    refine v_iald o n4 n5 dX3_addRoles_16 ?_
    obtain ⟨D7, he6, h⟩ := z_bind h
    refine v_callV o yw_X5_add ln_3_104 wi_X5_add ws_X5_add hX (by decide) 5 rfl n2 (As := [.int (z_U D (z_R G 302 a0) (a1).toNatClampNeg)]) rfl rfl (Nat.le_of_ble_eq_true rfl) (e_X5_add n2 he6) dX3_addRoles_17 ?_
    refine v_aload_n o dX3_addRoles_20 rfl 0 rfl ?_
    refine gt_3_9 o hK0 ln_1_91 (by rw [n2]; decide) dX3_addRoles_21 ?_
    refine v_aload_n o dX3_addRoles_24 rfl 0 rfl ?_
    obtain ⟨n8, h⟩ := z_gK_of h
    refine gt_3_1 o hK0 ln_1_83 (by rw [n8]; decide) dX3_addRoles_25 ?_
    refine v_iload_n o dX3_addRoles_28 rfl 1 rfl ?_
    obtain ⟨n9, n10, h⟩ := z_gA_of h
    refine v_iald o n9 n10 dX3_addRoles_29 ?_
    obtain ⟨D12, he11, h⟩ := z_bind h
    refine v_callV o yw_X5_addKeys ln_3_127 wi_X5_addKeys ws_X5_addKeys hX (by decide) 5 rfl n2 (As := [.int (z_U D7 (z_R G 301 a0) (a1).toNatClampNeg)]) rfl rfl (Nat.le_of_ble_eq_true rfl) (e_X5_addKeys n2 he11) dX3_addRoles_30 ?_
    refine v_iinc o (a1 + (1 : Int32)) [(1, .int (a1 + (1 : Int32))), (0, .ref (z_w q a0))] dX3_addRoles_33 1 rfl rfl (by decide) rfl ?_
    refine v_goto o 2 dX3_addRoles_36 (by decide) ?_
    obtain rfl := z_some h
    refine v_sub [1, 0] rfl ?_
    exact hk
def f_X3_addRoles (G : z_G) (D : z_D) (a0 : Nat) : Option (z_D) :=
  ((z_loop (fun v => c_X3_addRoles_2 G v.1 a0 v.2) 4000 (D, (0 : Int32))).bind (fun e13 => (some e13)))
set_option maxRecDepth 100000 in
set_option maxHeartbeats 4000000 in
theorem b_X3_addRoles {q : z_Q} {X : z_X} {G : z_G} {D : z_D} {a0 : Nat}  {D1 : z_D} (o : z_O q X cX3_addRoles 2 "FlashTrust$Maker" "addRoles" none) (hX : x_R X = z_rm 2 0 0) (hK0 : z_K G a0 = 103) (h : f_X3_addRoles G D a0 = some D1) : z_V q X 2 (z_F q X none G D1 0 0) 0 0 G D 0 [(0, .ref (z_w q a0))] [] := by
  unfold f_X3_addRoles at h
  refine v_iconst o (0 : Int32) dX3_addRoles_0 (by decide) ?_
  refine v_istore_n o [(1, .int (0 : Int32)), (0, .ref (z_w q a0))] dX3_addRoles_1 rfl (by decide) rfl ?_
  refine v_sub [1, 0] rfl ?_
  obtain ⟨e13, he14, h⟩ := z_bind h
  refine z_loopV (P := p_X3_addRoles_2 q X _ G a0) (E := x_X3_addRoles_2 q X _ G a0) (fun v ρ hb hk => tc_X3_addRoles_2 (D := v.1) (a0 := a0) (a1 := v.2) o hX hK0 hb hk) 4000 _ e13 he14 ?_
  show z_V q X 2 _ _ _ G e13 39 [] []
  have hr := z_some h
  subst hr
  exact v_return o dX3_addRoles_39
theorem e_X3_addRoles {q : z_Q} {l : Launch} {G : z_G} {D : z_D} {a0 : Nat}  {D1 : z_D} (hK0 : z_K G a0 = 103) (h : f_X3_addRoles G D a0 = some D1) : z_E q l yX3_addRoles cX3_addRoles 2 none 2 0 0 [.ref (z_w q a0)] G D none G D1 :=
  z_E.of (by decide) (Nat.le_of_ble_eq_true rfl) (fun X hX _ o => b_X3_addRoles o hX hK0 h)
def p_X3_addImages_13 (q : z_Q) (X : z_X) (Q : State → Prop) (G : z_G) (a0 : Nat) : (z_D × Int32) → Prop := (fun v => z_V q X 2 Q 0 0 G v.1 13 [(0, .ref (z_w q a0)), (1, .int v.2)] [])
def x_X3_addImages_13 (q : z_Q) (X : z_X) (Q : State → Prop) (G : z_G) (a0 : Nat) : z_D → Prop := (fun v => z_V q X 2 Q 0 0 G v 77 [] [])
def k_X3_addImages_13 (q : z_Q) (X : z_X) (Q : State → Prop) (G : z_G) (a0 : Nat) : (z_D × Int32) ⊕ z_D → Prop := Sum.elim (p_X3_addImages_13 q X Q G a0) (x_X3_addImages_13 q X Q G a0)
def c_X3_addImages_13 (G : z_G) (D : z_D) (a0 : Nat) (a1 : Int32) : Option ((z_D × Int32) ⊕ z_D) :=
  (if (z_I D 303 a0) ≤ a1 then (some (.inr D)) else ((if (4 : Int32) ≤ a1 then (some (.inr D)) else (z_gK G 105 (z_R G 309 a0) (z_gK G 1 (z_R G 304 a0) (z_gA G 1 (z_R G 304 a0) a1 ((f_X5_addNumber G D (z_R G 309 a0) (((z_U D (z_R G 304 a0) (a1).toNatClampNeg)).toInt64) (2 : Int32)).bind (fun D11 => (z_gK G 1 (z_R G 305 a0) (z_gA G 1 (z_R G 305 a0) a1 ((f_X5_addNumber G D11 (z_R G 309 a0) (((z_U D11 (z_R G 305 a0) (a1).toNatClampNeg)).toInt64) (2 : Int32)).bind (fun D16 => (z_gK G 2 (z_R G 307 a0) (z_gA G 2 (z_R G 307 a0) a1 ((f_X5_addNumber G D16 (z_R G 309 a0) (z_Y D16 (z_R G 307 a0) (a1).toNatClampNeg) (8 : Int32)).bind (fun D21 => ((some (.inl (D21, (a1 + (1 : Int32))))))))))))))))))))))
set_option maxRecDepth 100000 in
set_option maxHeartbeats 4000000 in
theorem tc_X3_addImages_13 {q : z_Q} {X : z_X} {G : z_G} {D : z_D} {Q : State → Prop} {a0 : Nat} {a1 : Int32} (o : z_O q X cX3_addImages 2 "FlashTrust$Maker" "addImages" none) (hX : x_R X = z_rm 2 0 0) (hK0 : z_K G a0 = 103) {ρ : (z_D × Int32) ⊕ z_D} (h : c_X3_addImages_13 G D a0 a1 = some ρ) (hk : k_X3_addImages_13 q X Q G a0 ρ) : z_V q X 2 Q 0 0 G D 13 [(0, .ref (z_w q a0)), (1, .int a1)] [] := by
  unfold c_X3_addImages_13 at h
  refine v_iload_n o dX3_addImages_13 rfl 1 rfl ?_
  refine v_aload_n o dX3_addImages_14 rfl 0 rfl ?_
  refine gt_3_3 o hK0 ln_1_85 dX3_addImages_15 ?_
  refine v_icmp_ge o 77 dX3_addImages_18 (by decide) (fun c4 => ?_) (fun c4 => ?_)
  · replace h := z_ip c4 h
    obtain rfl := z_some h
    refine v_sub [] rfl ?_
    exact hk
  · replace h := z_in c4 h
    refine v_iload_n o dX3_addImages_21 rfl 1 rfl ?_
    refine v_iconst o (4 : Int32) dX3_addImages_22 (by decide) ?_
    refine v_icmp_ge o 77 dX3_addImages_23 (by decide) (fun c5 => ?_) (fun c5 => ?_)
    · replace h := z_ip c5 h
      obtain rfl := z_some h
      refine v_sub [] rfl ?_
      exact hk
    · replace h := z_in c5 h
      refine v_aload_n o dX3_addImages_26 rfl 0 rfl ?_
      obtain ⟨n6, h⟩ := z_gK_of h
      refine gt_3_9 o hK0 ln_1_91 (by rw [n6]; decide) dX3_addImages_27 ?_
      refine v_aload_n o dX3_addImages_30 rfl 0 rfl ?_
      obtain ⟨n7, h⟩ := z_gK_of h
      refine gt_3_4 o hK0 ln_1_86 (by rw [n7]; decide) dX3_addImages_31 ?_
      refine v_iload_n o dX3_addImages_34 rfl 1 rfl ?_
      obtain ⟨n8, n9, h⟩ := z_gA_of h
      refine v_iald o n8 n9 dX3_addImages_35 ?_
      refine v_i2l o dX3_addImages_36 ?_
      refine v_iconst o (2 : Int32) dX3_addImages_37 (by decide) ?_
      obtain ⟨D11, he10, h⟩ := z_bind h
      refine v_callV o yw_X5_addNumber ln_3_122 wi_X5_addNumber ws_X5_addNumber hX (by decide) 5 rfl n6 (As := [.long ((z_U D (z_R G 304 a0) (a1).toNatClampNeg)).toInt64, .int (2 : Int32)]) rfl rfl (Nat.le_of_ble_eq_true rfl) (e_X5_addNumber n6 he10) dX3_addImages_38 ?_
      refine v_aload_n o dX3_addImages_41 rfl 0 rfl ?_
      refine gt_3_9 o hK0 ln_1_91 (by rw [n6]; decide) dX3_addImages_42 ?_
      refine v_aload_n o dX3_addImages_45 rfl 0 rfl ?_
      obtain ⟨n12, h⟩ := z_gK_of h
      refine gt_3_5 o hK0 ln_1_87 (by rw [n12]; decide) dX3_addImages_46 ?_
      refine v_iload_n o dX3_addImages_49 rfl 1 rfl ?_
      obtain ⟨n13, n14, h⟩ := z_gA_of h
      refine v_iald o n13 n14 dX3_addImages_50 ?_
      refine v_i2l o dX3_addImages_51 ?_
      refine v_iconst o (2 : Int32) dX3_addImages_52 (by decide) ?_
      obtain ⟨D16, he15, h⟩ := z_bind h
      refine v_callV o yw_X5_addNumber ln_3_122 wi_X5_addNumber ws_X5_addNumber hX (by decide) 5 rfl n6 (As := [.long ((z_U D11 (z_R G 305 a0) (a1).toNatClampNeg)).toInt64, .int (2 : Int32)]) rfl rfl (Nat.le_of_ble_eq_true rfl) (e_X5_addNumber n6 he15) dX3_addImages_53 ?_
      refine v_aload_n o dX3_addImages_56 rfl 0 rfl ?_
      refine gt_3_9 o hK0 ln_1_91 (by rw [n6]; decide) dX3_addImages_57 ?_
      refine v_aload_n o dX3_addImages_60 rfl 0 rfl ?_
      obtain ⟨n17, h⟩ := z_gK_of h
      refine gt_3_7 o hK0 ln_1_89 (by rw [n17]; decide) dX3_addImages_61 ?_
      refine v_iload_n o dX3_addImages_64 rfl 1 rfl ?_
      obtain ⟨n18, n19, h⟩ := z_gA_of h
      refine v_lald o n18 n19 dX3_addImages_65 ?_
      refine v_bipush o (8 : Int32) dX3_addImages_66 (by decide) ?_
      obtain ⟨D21, he20, h⟩ := z_bind h
      refine v_callV o yw_X5_addNumber ln_3_122 wi_X5_addNumber ws_X5_addNumber hX (by decide) 5 rfl n6 (As := [.long (z_Y D16 (z_R G 307 a0) (a1).toNatClampNeg), .int (8 : Int32)]) rfl rfl (Nat.le_of_ble_eq_true rfl) (e_X5_addNumber n6 he20) dX3_addImages_68 ?_
      refine v_iinc o (a1 + (1 : Int32)) [(1, .int (a1 + (1 : Int32))), (0, .ref (z_w q a0))] dX3_addImages_71 1 rfl rfl (by decide) rfl ?_
      refine v_goto o 13 dX3_addImages_74 (by decide) ?_
      obtain rfl := z_some h
      refine v_sub [1, 0] rfl ?_
      exact hk
def f_X3_addImages (G : z_G) (D : z_D) (a0 : Nat) : Option (z_D) :=
  z_gK G 105 (z_R G 309 a0) ((f_X5_add G D (z_R G 309 a0) (z_I D 303 a0)).bind (fun D3 => (((z_loop (fun v => c_X3_addImages_13 G v.1 a0 v.2) 4000 (D3, (0 : Int32))).bind (fun e22 => (some e22))))))
set_option maxRecDepth 100000 in
set_option maxHeartbeats 4000000 in
theorem b_X3_addImages {q : z_Q} {X : z_X} {G : z_G} {D : z_D} {a0 : Nat}  {D1 : z_D} (o : z_O q X cX3_addImages 2 "FlashTrust$Maker" "addImages" none) (hX : x_R X = z_rm 2 0 0) (hK0 : z_K G a0 = 103) (h : f_X3_addImages G D a0 = some D1) : z_V q X 2 (z_F q X none G D1 0 0) 0 0 G D 0 [(0, .ref (z_w q a0))] [] := by
  unfold f_X3_addImages at h
  refine v_aload_n o dX3_addImages_0 rfl 0 rfl ?_
  obtain ⟨n1, h⟩ := z_gK_of h
  refine gt_3_9 o hK0 ln_1_91 (by rw [n1]; decide) dX3_addImages_1 ?_
  refine v_aload_n o dX3_addImages_4 rfl 0 rfl ?_
  refine gt_3_3 o hK0 ln_1_85 dX3_addImages_5 ?_
  obtain ⟨D3, he2, h⟩ := z_bind h
  refine v_callV o yw_X5_add ln_3_104 wi_X5_add ws_X5_add hX (by decide) 5 rfl n1 (As := [.int (z_I D 303 a0)]) rfl rfl (Nat.le_of_ble_eq_true rfl) (e_X5_add n1 he2) dX3_addImages_8 ?_
  refine v_iconst o (0 : Int32) dX3_addImages_11 (by decide) ?_
  refine v_istore_n o [(1, .int (0 : Int32)), (0, .ref (z_w q a0))] dX3_addImages_12 rfl (by decide) rfl ?_
  refine v_sub [1, 0] rfl ?_
  obtain ⟨e22, he23, h⟩ := z_bind h
  refine z_loopV (P := p_X3_addImages_13 q X _ G a0) (E := x_X3_addImages_13 q X _ G a0) (fun v ρ hb hk => tc_X3_addImages_13 (D := v.1) (a0 := a0) (a1 := v.2) o hX hK0 hb hk) 4000 _ e22 he23 ?_
  show z_V q X 2 _ _ _ G e22 77 [] []
  have hr := z_some h
  subst hr
  exact v_return o dX3_addImages_77
theorem e_X3_addImages {q : z_Q} {l : Launch} {G : z_G} {D : z_D} {a0 : Nat}  {D1 : z_D} (hK0 : z_K G a0 = 103) (h : f_X3_addImages G D a0 = some D1) : z_E q l yX3_addImages cX3_addImages 2 none 2 0 0 [.ref (z_w q a0)] G D none G D1 :=
  z_E.of (by decide) (Nat.le_of_ble_eq_true rfl) (fun X hX _ o => b_X3_addImages o hX hK0 h)
def j_X3_compose_110 (G : z_G) (D : z_D) (a0 : Nat) (a1 : Int32) (a2 : Int32)  : Option (Int32 × z_D) :=
  z_gK G 1 (z_R G 312 a0) (z_gA G 1 (z_R G 312 a0) a1 (z_gK G 2 (z_R G 313 a0) (z_gK G 105 (z_R G 309 a0) ((f_X5_size G (z_sU (z_sI (z_sI D 310 a0 a1) 311 a0 (0 : Int32)) (z_R G 312 a0) (a1).toNatClampNeg a2) (z_R G 309 a0)).bind (fun r31 => ((f_X5_hash G (z_sU (z_sI (z_sI D 310 a0 a1) 311 a0 (0 : Int32)) (z_R G 312 a0) (a1).toNatClampNeg a2) (z_R G 309 a0) (0 : Int32) r31).bind (fun r33 => (z_gA G 2 (z_R G 313 a0) a1 ((f_X5_size G (z_sY (z_sU (z_sI (z_sI D 310 a0 a1) 311 a0 (0 : Int32)) (z_R G 312 a0) (a1).toNatClampNeg a2) (z_R G 313 a0) (a1).toNatClampNeg r33) (z_R G 309 a0)).bind (fun r37 => ((some (r37, (z_sY (z_sU (z_sI (z_sI D 310 a0 a1) 311 a0 (0 : Int32)) (z_R G 312 a0) (a1).toNatClampNeg a2) (z_R G 313 a0) (a1).toNatClampNeg r33))))))))))))))
set_option maxRecDepth 100000 in
set_option maxHeartbeats 4000000 in
theorem tj_X3_compose_110 {q : z_Q} {X : z_X} {G : z_G} {D : z_D} {a0 : Nat} {a1 : Int32} {a2 : Int32}  {r : Int32} {D1 : z_D} (o : z_O q X cX3_compose 4 "FlashTrust$Maker" "compose" (some .int)) (hX : x_R X = z_rm 3 0 0) (hK0 : z_K G a0 = 103) (h : j_X3_compose_110 G D a0 a1 a2  = some (r, D1)) : z_V q X 4 (z_F q X (some (.int r)) G D1 0 0) 0 0 G D 110 [(0, .ref (z_w q a0)), (1, .int a1), (2, .int a2)] [] := by
  unfold j_X3_compose_110 at h
  refine v_aload_n o dX3_compose_110 rfl 0 rfl ?_
  refine v_iload_n o dX3_compose_111 rfl 1 rfl ?_
  refine pt_3_10 o hK0 ln_1_92 dX3_compose_112 ?_
  refine v_aload_n o dX3_compose_115 rfl 0 rfl ?_
  refine v_iconst o (0 : Int32) dX3_compose_116 (by decide) ?_
  refine pt_3_11 o hK0 ln_1_93 dX3_compose_117 ?_
  refine v_aload_n o dX3_compose_120 rfl 0 rfl ?_
  obtain ⟨n25, h⟩ := z_gK_of h
  refine gt_3_12 o hK0 ln_1_94 (by rw [n25]; decide) dX3_compose_121 ?_
  refine v_iload_n o dX3_compose_124 rfl 1 rfl ?_
  refine v_iload_n o dX3_compose_125 rfl 2 rfl ?_
  obtain ⟨n26, n27, h⟩ := z_gA_of h
  refine v_iast o n26 n27 dX3_compose_126 ?_
  refine v_aload_n o dX3_compose_127 rfl 0 rfl ?_
  obtain ⟨n28, h⟩ := z_gK_of h
  refine gt_3_13 o hK0 ln_1_95 (by rw [n28]; decide) dX3_compose_128 ?_
  refine v_iload_n o dX3_compose_131 rfl 1 rfl ?_
  refine v_aload_n o dX3_compose_132 rfl 0 rfl ?_
  obtain ⟨n29, h⟩ := z_gK_of h
  refine gt_3_9 o hK0 ln_1_91 (by rw [n29]; decide) dX3_compose_133 ?_
  refine v_iconst o (0 : Int32) dX3_compose_136 (by decide) ?_
  refine v_aload_n o dX3_compose_137 rfl 0 rfl ?_
  refine gt_3_9 o hK0 ln_1_91 (by rw [n29]; decide) dX3_compose_138 ?_
  obtain ⟨r31, he30, h⟩ := z_bind h
  refine v_callV o yw_X5_size ln_3_136 wi_X5_size ws_X5_size hX (by decide) 5 rfl n29 (As := []) rfl rfl (Nat.le_of_ble_eq_true rfl) (e_X5_size n29 he30) dX3_compose_141 ?_
  obtain ⟨r33, he32, h⟩ := z_bind h
  refine v_callV o yw_X5_hash ln_3_105 wi_X5_hash ws_X5_hash hX (by decide) 5 rfl n29 (As := [.int (0 : Int32), .int r31]) rfl rfl (Nat.le_of_ble_eq_true rfl) (e_X5_hash n29 he32) dX3_compose_144 ?_
  obtain ⟨n34, n35, h⟩ := z_gA_of h
  refine v_last o n34 n35 dX3_compose_147 ?_
  refine v_aload_n o dX3_compose_148 rfl 0 rfl ?_
  refine gt_3_9 o hK0 ln_1_91 (by rw [n29]; decide) dX3_compose_149 ?_
  obtain ⟨r37, he36, h⟩ := z_bind h
  refine v_callV o yw_X5_size ln_3_136 wi_X5_size ws_X5_size hX (by decide) 5 rfl n29 (As := []) rfl rfl (Nat.le_of_ble_eq_true rfl) (e_X5_size n29 he36) dX3_compose_152 ?_
  obtain ⟨hr, hs⟩ := Prod.mk.inj (z_some h)
  subst hr
  subst hs
  exact v_ireturn o dX3_compose_155
def f_X3_compose (G : z_G) (D : z_D) (a0 : Nat) (a1 : Int32) (a2 : Int32) (a3 : Int32) : Option (Int32 × z_D) :=
  (if a1 < (0 : Int32) then ((some ((-1 : Int32), D))) else ((if (4 : Int32) ≤ a1 then ((some ((-1 : Int32), D))) else ((if a2 < (1 : Int32) then ((some ((-1 : Int32), D))) else ((if (65535 : Int32) < a2 then ((some ((-1 : Int32), D))) else ((if (0 : Int32) ≤ a3 then (z_gK G 105 (z_R G 309 a0) ((f_X5_empty G D (z_R G 309 a0)).bind (fun D8 => ((f_X5_addNumber G D8 (z_R G 309 a0) ((a2).toInt64) (2 : Int32)).bind (fun D10 => ((f_X5_addNumber G D10 (z_R G 309 a0) ((a3).toInt64) (4 : Int32)).bind (fun D12 => ((if a1 = (0 : Int32) then ((f_X3_addRoles G D12 a0).bind (fun D41 => ((j_X3_compose_110 G D41  a0 a1 a2)))) else ((if a1 = (3 : Int32) then ((f_X3_addImages G D12 a0).bind (fun D39 => ((j_X3_compose_110 G D39  a0 a1 a2)))) else (z_gK G 1 (z_R G 312 a0) (z_gA G 1 (z_R G 312 a0) (a1 + (1 : Int32)) ((f_X5_addNumber G D12 (z_R G 309 a0) (((z_U D12 (z_R G 312 a0) ((a1 + (1 : Int32))).toNatClampNeg)).toInt64) (2 : Int32)).bind (fun D19 => (z_gK G 2 (z_R G 313 a0) (z_gA G 2 (z_R G 313 a0) (a1 + (1 : Int32)) ((f_X5_addNumber G D19 (z_R G 309 a0) (z_Y D19 (z_R G 313 a0) ((a1 + (1 : Int32))).toNatClampNeg) (8 : Int32)).bind (fun D24 => ((j_X3_compose_110 G D24  a0 a1 a2))))))))))))))))))))) else ((some ((-1 : Int32), D))))))))))))
set_option maxRecDepth 100000 in
set_option maxHeartbeats 4000000 in
theorem b_X3_compose {q : z_Q} {X : z_X} {G : z_G} {D : z_D} {a0 : Nat} {a1 : Int32} {a2 : Int32} {a3 : Int32} {r : Int32} {D1 : z_D} (o : z_O q X cX3_compose 4 "FlashTrust$Maker" "compose" (some .int)) (hX : x_R X = z_rm 3 0 0) (hK0 : z_K G a0 = 103) (h : f_X3_compose G D a0 a1 a2 a3 = some (r, D1)) : z_V q X 4 (z_F q X (some (.int r)) G D1 0 0) 0 0 G D 0 [(0, .ref (z_w q a0)), (1, .int a1), (2, .int a2), (3, .int a3)] [] := by
  unfold f_X3_compose at h
  refine v_iload_n o dX3_compose_0 rfl 1 rfl ?_
  refine v_if_lt o 24 dX3_compose_1 (by decide) (fun c1 => ?_) (fun c1 => ?_)
  · replace h := z_ip c1 h
    refine v_iconst o (-1 : Int32) dX3_compose_24 (by decide) ?_
    obtain ⟨hr, hs⟩ := Prod.mk.inj (z_some h)
    subst hr
    subst hs
    exact v_ireturn o dX3_compose_25
  · replace h := z_in c1 h
    refine v_iload_n o dX3_compose_4 rfl 1 rfl ?_
    refine v_iconst o (4 : Int32) dX3_compose_5 (by decide) ?_
    refine v_icmp_ge o 24 dX3_compose_6 (by decide) (fun c2 => ?_) (fun c2 => ?_)
    · replace h := z_ip c2 h
      refine v_iconst o (-1 : Int32) dX3_compose_24 (by decide) ?_
      obtain ⟨hr, hs⟩ := Prod.mk.inj (z_some h)
      subst hr
      subst hs
      exact v_ireturn o dX3_compose_25
    · replace h := z_in c2 h
      refine v_iload_n o dX3_compose_9 rfl 2 rfl ?_
      refine v_iconst o (1 : Int32) dX3_compose_10 (by decide) ?_
      refine v_icmp_lt o 24 dX3_compose_11 (by decide) (fun c3 => ?_) (fun c3 => ?_)
      · replace h := z_ip c3 h
        refine v_iconst o (-1 : Int32) dX3_compose_24 (by decide) ?_
        obtain ⟨hr, hs⟩ := Prod.mk.inj (z_some h)
        subst hr
        subst hs
        exact v_ireturn o dX3_compose_25
      · replace h := z_in c3 h
        refine v_iload_n o dX3_compose_14 rfl 2 rfl ?_
        refine v_ldc o ln_3_98 dX3_compose_15 ?_
        refine v_icmp_gt o 24 dX3_compose_17 (by decide) (fun c4 => ?_) (fun c4 => ?_)
        · replace h := z_ip c4 h
          refine v_iconst o (-1 : Int32) dX3_compose_24 (by decide) ?_
          obtain ⟨hr, hs⟩ := Prod.mk.inj (z_some h)
          subst hr
          subst hs
          exact v_ireturn o dX3_compose_25
        · replace h := z_in c4 h
          refine v_iload_n o dX3_compose_20 rfl 3 rfl ?_
          refine v_if_ge o 26 dX3_compose_21 (by decide) (fun c5 => ?_) (fun c5 => ?_)
          · replace h := z_ip c5 h
            refine v_aload_n o dX3_compose_26 rfl 0 rfl ?_
            obtain ⟨n6, h⟩ := z_gK_of h
            refine gt_3_9 o hK0 ln_1_91 (by rw [n6]; decide) dX3_compose_27 ?_
            obtain ⟨D8, he7, h⟩ := z_bind h
            refine v_callV o yw_X5_empty ln_3_99 wi_X5_empty ws_X5_empty hX (by decide) 5 rfl n6 (As := []) rfl rfl (Nat.le_of_ble_eq_true rfl) (e_X5_empty n6 he7) dX3_compose_30 ?_
            refine v_aload_n o dX3_compose_33 rfl 0 rfl ?_
            refine gt_3_9 o hK0 ln_1_91 (by rw [n6]; decide) dX3_compose_34 ?_
            refine v_iload_n o dX3_compose_37 rfl 2 rfl ?_
            refine v_i2l o dX3_compose_38 ?_
            refine v_iconst o (2 : Int32) dX3_compose_39 (by decide) ?_
            obtain ⟨D10, he9, h⟩ := z_bind h
            refine v_callV o yw_X5_addNumber ln_3_122 wi_X5_addNumber ws_X5_addNumber hX (by decide) 5 rfl n6 (As := [.long (a2).toInt64, .int (2 : Int32)]) rfl rfl (Nat.le_of_ble_eq_true rfl) (e_X5_addNumber n6 he9) dX3_compose_40 ?_
            refine v_aload_n o dX3_compose_43 rfl 0 rfl ?_
            refine gt_3_9 o hK0 ln_1_91 (by rw [n6]; decide) dX3_compose_44 ?_
            refine v_iload_n o dX3_compose_47 rfl 3 rfl ?_
            refine v_i2l o dX3_compose_48 ?_
            refine v_iconst o (4 : Int32) dX3_compose_49 (by decide) ?_
            obtain ⟨D12, he11, h⟩ := z_bind h
            refine v_callV o yw_X5_addNumber ln_3_122 wi_X5_addNumber ws_X5_addNumber hX (by decide) 5 rfl n6 (As := [.long (a3).toInt64, .int (4 : Int32)]) rfl rfl (Nat.le_of_ble_eq_true rfl) (e_X5_addNumber n6 he11) dX3_compose_50 ?_
            refine v_iload_n o dX3_compose_53 rfl 1 rfl ?_
            refine v_if_ne o 64 dX3_compose_54 (by decide) (fun c13 => ?_) (fun c13 => ?_)
            · replace h := z_in c13 h
              refine v_iload_n o dX3_compose_64 rfl 1 rfl ?_
              refine v_iconst o (3 : Int32) dX3_compose_65 (by decide) ?_
              refine v_icmp_ne o 76 dX3_compose_66 (by decide) (fun c14 => ?_) (fun c14 => ?_)
              · replace h := z_in c14 h
                refine v_aload_n o dX3_compose_76 rfl 0 rfl ?_
                refine gt_3_9 o hK0 ln_1_91 (by rw [n6]; decide) dX3_compose_77 ?_
                refine v_aload_n o dX3_compose_80 rfl 0 rfl ?_
                obtain ⟨n15, h⟩ := z_gK_of h
                refine gt_3_12 o hK0 ln_1_94 (by rw [n15]; decide) dX3_compose_81 ?_
                refine v_iload_n o dX3_compose_84 rfl 1 rfl ?_
                refine v_iconst o (1 : Int32) dX3_compose_85 (by decide) ?_
                refine v_iadd o dX3_compose_86 ?_
                obtain ⟨n16, n17, h⟩ := z_gA_of h
                refine v_iald o n16 n17 dX3_compose_87 ?_
                refine v_i2l o dX3_compose_88 ?_
                refine v_iconst o (2 : Int32) dX3_compose_89 (by decide) ?_
                obtain ⟨D19, he18, h⟩ := z_bind h
                refine v_callV o yw_X5_addNumber ln_3_122 wi_X5_addNumber ws_X5_addNumber hX (by decide) 5 rfl n6 (As := [.long ((z_U D12 (z_R G 312 a0) ((a1 + (1 : Int32))).toNatClampNeg)).toInt64, .int (2 : Int32)]) rfl rfl (Nat.le_of_ble_eq_true rfl) (e_X5_addNumber n6 he18) dX3_compose_90 ?_
                refine v_aload_n o dX3_compose_93 rfl 0 rfl ?_
                refine gt_3_9 o hK0 ln_1_91 (by rw [n6]; decide) dX3_compose_94 ?_
                refine v_aload_n o dX3_compose_97 rfl 0 rfl ?_
                obtain ⟨n20, h⟩ := z_gK_of h
                refine gt_3_13 o hK0 ln_1_95 (by rw [n20]; decide) dX3_compose_98 ?_
                refine v_iload_n o dX3_compose_101 rfl 1 rfl ?_
                refine v_iconst o (1 : Int32) dX3_compose_102 (by decide) ?_
                refine v_iadd o dX3_compose_103 ?_
                obtain ⟨n21, n22, h⟩ := z_gA_of h
                refine v_lald o n21 n22 dX3_compose_104 ?_
                refine v_bipush o (8 : Int32) dX3_compose_105 (by decide) ?_
                obtain ⟨D24, he23, h⟩ := z_bind h
                refine v_callV o yw_X5_addNumber ln_3_122 wi_X5_addNumber ws_X5_addNumber hX (by decide) 5 rfl n6 (As := [.long (z_Y D19 (z_R G 313 a0) ((a1 + (1 : Int32))).toNatClampNeg), .int (8 : Int32)]) rfl rfl (Nat.le_of_ble_eq_true rfl) (e_X5_addNumber n6 he23) dX3_compose_107 ?_
                refine v_sub [0, 1, 2] rfl ?_
                exact tj_X3_compose_110 o hX hK0 h
              · replace h := z_ip c14 h
                refine v_aload_n o dX3_compose_69 rfl 0 rfl ?_
                obtain ⟨D39, he38, h⟩ := z_bind h
                refine v_callV o yw_X3_addImages ln_3_132 wi_X3_addImages ws_X3_addImages hX (by decide) 3 rfl hK0 (As := []) rfl rfl (Nat.le_of_ble_eq_true rfl) (e_X3_addImages hK0 he38) dX3_compose_70 ?_
                refine v_goto o 110 dX3_compose_73 (by decide) ?_
                refine v_sub [0, 1, 2] rfl ?_
                exact tj_X3_compose_110 o hX hK0 h
            · replace h := z_ip c13 h
              refine v_aload_n o dX3_compose_57 rfl 0 rfl ?_
              obtain ⟨D41, he40, h⟩ := z_bind h
              refine v_callV o yw_X3_addRoles ln_3_123 wi_X3_addRoles ws_X3_addRoles hX (by decide) 3 rfl hK0 (As := []) rfl rfl (Nat.le_of_ble_eq_true rfl) (e_X3_addRoles hK0 he40) dX3_compose_58 ?_
              refine v_goto o 110 dX3_compose_61 (by decide) ?_
              refine v_sub [0, 1, 2] rfl ?_
              exact tj_X3_compose_110 o hX hK0 h
          · replace h := z_in c5 h
            refine v_iconst o (-1 : Int32) dX3_compose_24 (by decide) ?_
            obtain ⟨hr, hs⟩ := Prod.mk.inj (z_some h)
            subst hr
            subst hs
            exact v_ireturn o dX3_compose_25
theorem e_X3_compose {q : z_Q} {l : Launch} {G : z_G} {D : z_D} {a0 : Nat} {a1 : Int32} {a2 : Int32} {a3 : Int32} {r : Int32} {D1 : z_D} (hK0 : z_K G a0 = 103) (h : f_X3_compose G D a0 a1 a2 a3 = some (r, D1)) : z_E q l yX3_compose cX3_compose 4 (some .int) 3 0 0 [.ref (z_w q a0), .int a1, .int a2, .int a3] G D (some (.int r)) G D1 :=
  z_E.of (by decide) (Nat.le_of_ble_eq_true rfl) (fun X hX _ o => b_X3_compose o hX hK0 h)
def f_X3_addKey (G : z_G) (D : z_D) (a0 : Nat) (a1 : Int32) : Option (Int32 × z_D) :=
  (if (z_I D 310 a0) = (-1 : Int32) then ((some ((-1 : Int32), D))) else ((if a1 < (0 : Int32) then ((some ((-1 : Int32), D))) else ((if a1 < (16 : Int32) then (z_gK G 107 (z_R G 300 a0) (z_gK G 105 (z_R G 309 a0) ((f_X5_size G D (z_R G 309 a0)).bind (fun r7 => ((f_X5_hash G D (z_R G 309 a0) (0 : Int32) r7).bind (fun r9 => ((f_X7_add G D (z_R G 300 a0) a1 r9).bind (fun p11 => ((if p11.1 = (0 : Int32) then ((some ((-5 : Int32), p11.2))) else ((f_J6_bitCount_0f7a4 G (z_sI p11.2 311 a0 ((z_I p11.2 311 a0) ||| ((1 : Int32) <<< (a1 &&& 31)))) (z_I (z_sI p11.2 311 a0 ((z_I p11.2 311 a0) ||| ((1 : Int32) <<< (a1 &&& 31)))) 311 a0)).bind (fun r14 => ((some (r14, (z_sI p11.2 311 a0 ((z_I p11.2 311 a0) ||| ((1 : Int32) <<< (a1 &&& 31))))))))))))))))))) else ((some ((-1 : Int32), D))))))))
set_option maxRecDepth 100000 in
set_option maxHeartbeats 4000000 in
theorem b_X3_addKey {q : z_Q} {X : z_X} {G : z_G} {D : z_D} {a0 : Nat} {a1 : Int32} {r : Int32} {D1 : z_D} (o : z_O q X cX3_addKey 2 "FlashTrust$Maker" "addKey" (some .int)) (hX : x_R X = z_rm 2 0 0) (hK0 : z_K G a0 = 103) (h : f_X3_addKey G D a0 a1 = some (r, D1)) : z_V q X 2 (z_F q X (some (.int r)) G D1 0 0) 0 0 G D 0 [(0, .ref (z_w q a0)), (1, .int a1)] [] := by
  unfold f_X3_addKey at h
  refine v_aload_n o dX3_addKey_0 rfl 0 rfl ?_
  refine gt_3_10 o hK0 ln_1_92 dX3_addKey_1 ?_
  refine v_iconst o (-1 : Int32) dX3_addKey_4 (by decide) ?_
  refine v_icmp_eq o 18 dX3_addKey_5 (by decide) (fun c1 => ?_) (fun c1 => ?_)
  · replace h := z_ip c1 h
    refine v_iconst o (-1 : Int32) dX3_addKey_18 (by decide) ?_
    obtain ⟨hr, hs⟩ := Prod.mk.inj (z_some h)
    subst hr
    subst hs
    exact v_ireturn o dX3_addKey_19
  · replace h := z_in c1 h
    refine v_iload_n o dX3_addKey_8 rfl 1 rfl ?_
    refine v_if_lt o 18 dX3_addKey_9 (by decide) (fun c2 => ?_) (fun c2 => ?_)
    · replace h := z_ip c2 h
      refine v_iconst o (-1 : Int32) dX3_addKey_18 (by decide) ?_
      obtain ⟨hr, hs⟩ := Prod.mk.inj (z_some h)
      subst hr
      subst hs
      exact v_ireturn o dX3_addKey_19
    · replace h := z_in c2 h
      refine v_iload_n o dX3_addKey_12 rfl 1 rfl ?_
      refine v_bipush o (16 : Int32) dX3_addKey_13 (by decide) ?_
      refine v_icmp_lt o 20 dX3_addKey_15 (by decide) (fun c3 => ?_) (fun c3 => ?_)
      · replace h := z_ip c3 h
        refine v_aload_n o dX3_addKey_20 rfl 0 rfl ?_
        obtain ⟨n4, h⟩ := z_gK_of h
        refine gt_3_0 o hK0 ln_1_82 (by rw [n4]; decide) dX3_addKey_21 ?_
        refine v_iload_n o dX3_addKey_24 rfl 1 rfl ?_
        refine v_aload_n o dX3_addKey_25 rfl 0 rfl ?_
        obtain ⟨n5, h⟩ := z_gK_of h
        refine gt_3_9 o hK0 ln_1_91 (by rw [n5]; decide) dX3_addKey_26 ?_
        refine v_iconst o (0 : Int32) dX3_addKey_29 (by decide) ?_
        refine v_aload_n o dX3_addKey_30 rfl 0 rfl ?_
        refine gt_3_9 o hK0 ln_1_91 (by rw [n5]; decide) dX3_addKey_31 ?_
        obtain ⟨r7, he6, h⟩ := z_bind h
        refine v_callV o yw_X5_size ln_3_136 wi_X5_size ws_X5_size hX (by decide) 5 rfl n5 (As := []) rfl rfl (Nat.le_of_ble_eq_true rfl) (e_X5_size n5 he6) dX3_addKey_34 ?_
        obtain ⟨r9, he8, h⟩ := z_bind h
        refine v_callV o yw_X5_hash ln_3_105 wi_X5_hash ws_X5_hash hX (by decide) 5 rfl n5 (As := [.int (0 : Int32), .int r7]) rfl rfl (Nat.le_of_ble_eq_true rfl) (e_X5_hash n5 he8) dX3_addKey_37 ?_
        obtain ⟨p11, he10, h⟩ := z_bind h
        refine v_callV o yw_X7_add ln_3_145 wi_X7_add ws_X7_add hX (by decide) 7 rfl n4 (As := [.int a1, .long r9]) rfl rfl (Nat.le_of_ble_eq_true rfl) (e_X7_add n4 he10) dX3_addKey_40 ?_
        refine v_if_ne o 49 dX3_addKey_43 (by decide) (fun c12 => ?_) (fun c12 => ?_)
        · replace h := z_in c12 h
          refine v_aload_n o dX3_addKey_49 rfl 0 rfl ?_
          refine v_dup o dX3_addKey_50 rfl ?_
          refine gt_3_11 o hK0 ln_1_93 dX3_addKey_51 ?_
          refine v_iconst o (1 : Int32) dX3_addKey_54 (by decide) ?_
          refine v_iload_n o dX3_addKey_55 rfl 1 rfl ?_
          refine v_ishl o dX3_addKey_56 ?_
          refine v_ior o dX3_addKey_57 ?_
          refine pt_3_11 o hK0 ln_1_93 dX3_addKey_58 ?_
          refine v_aload_n o dX3_addKey_61 rfl 0 rfl ?_
          refine gt_3_11 o hK0 ln_1_93 dX3_addKey_62 ?_
          obtain ⟨r14, he13, h⟩ := z_bind h
          refine v_callS o yw_J6_bitCount_0f7a4 ln_3_83 ws_J6_bitCount_0f7a4 hX (by decide) (As := [.int (z_I (z_sI p11.2 311 a0 ((z_I p11.2 311 a0) ||| ((1 : Int32) <<< (a1 &&& 31)))) 311 a0)]) rfl rfl (Nat.le_of_ble_eq_true rfl) (e_J6_bitCount_0f7a4 he13) dX3_addKey_65 ?_
          obtain ⟨hr, hs⟩ := Prod.mk.inj (z_some h)
          subst hr
          subst hs
          exact v_ireturn o dX3_addKey_68
        · replace h := z_ip c12 h
          refine v_bipush o (-5 : Int32) dX3_addKey_46 (by decide) ?_
          obtain ⟨hr, hs⟩ := Prod.mk.inj (z_some h)
          subst hr
          subst hs
          exact v_ireturn o dX3_addKey_48
      · replace h := z_in c3 h
        refine v_iconst o (-1 : Int32) dX3_addKey_18 (by decide) ?_
        obtain ⟨hr, hs⟩ := Prod.mk.inj (z_some h)
        subst hr
        subst hs
        exact v_ireturn o dX3_addKey_19
theorem e_X3_addKey {q : z_Q} {l : Launch} {G : z_G} {D : z_D} {a0 : Nat} {a1 : Int32} {r : Int32} {D1 : z_D} (hK0 : z_K G a0 = 103) (h : f_X3_addKey G D a0 a1 = some (r, D1)) : z_E q l yX3_addKey cX3_addKey 2 (some .int) 2 0 0 [.ref (z_w q a0), .int a1] G D (some (.int r)) G D1 :=
  z_E.of (by decide) (Nat.le_of_ble_eq_true rfl) (fun X hX _ o => b_X3_addKey o hX hK0 h)
def f_X3_copyDraft (G : z_G) (D : z_D) (a0 : Nat) (a1 : Nat) : Option (Int32 × z_D) :=
  (if (z_I D 310 a0) = (-1 : Int32) then ((some ((-1 : Int32), D))) else (z_gK G 105 a1 ((f_X5_empty G D a1).bind (fun D4 => ((f_X5_add G D4 a1 (z_I D4 310 a0)).bind (fun D6 => (z_gK G 105 (z_R G 309 a0) ((f_X5_size G D6 (z_R G 309 a0)).bind (fun r9 => ((f_X5_addNumber G D6 a1 ((r9).toInt64) (2 : Int32)).bind (fun D11 => ((f_X5_size G D11 (z_R G 309 a0)).bind (fun r13 => ((f_X5_addFrom G D11 a1 (z_R G 309 a0) (0 : Int32) r13).bind (fun D15 => ((f_X5_addKeys G D15 a1 (z_I D15 311 a0)).bind (fun D17 => ((f_X5_size G D17 a1).bind (fun r19 => ((some (r19, D17))))))))))))))))))))))
set_option maxRecDepth 100000 in
set_option maxHeartbeats 4000000 in
theorem b_X3_copyDraft {q : z_Q} {X : z_X} {G : z_G} {D : z_D} {a0 : Nat} {a1 : Nat} {r : Int32} {D1 : z_D} (o : z_O q X cX3_copyDraft 2 "FlashTrust$Maker" "copyDraft" (some .int)) (hX : x_R X = z_rm 2 0 0) (hK0 : z_K G a0 = 103) (h : f_X3_copyDraft G D a0 a1 = some (r, D1)) : z_V q X 2 (z_F q X (some (.int r)) G D1 0 0) 0 0 G D 0 [(0, .ref (z_w q a0)), (1, .ref (z_w q a1))] [] := by
  unfold f_X3_copyDraft at h
  refine v_aload_n o dX3_copyDraft_0 rfl 0 rfl ?_
  refine gt_3_10 o hK0 ln_1_92 dX3_copyDraft_1 ?_
  refine v_iconst o (-1 : Int32) dX3_copyDraft_4 (by decide) ?_
  refine v_icmp_ne o 10 dX3_copyDraft_5 (by decide) (fun c1 => ?_) (fun c1 => ?_)
  · replace h := z_in c1 h
    refine v_aload_n o dX3_copyDraft_10 rfl 1 rfl ?_
    obtain ⟨n2, h⟩ := z_gK_of h
    obtain ⟨D4, he3, h⟩ := z_bind h
    refine v_callV o yw_X5_empty ln_3_99 wi_X5_empty ws_X5_empty hX (by decide) 5 rfl n2 (As := []) rfl rfl (Nat.le_of_ble_eq_true rfl) (e_X5_empty n2 he3) dX3_copyDraft_11 ?_
    refine v_aload_n o dX3_copyDraft_14 rfl 1 rfl ?_
    refine v_aload_n o dX3_copyDraft_15 rfl 0 rfl ?_
    refine gt_3_10 o hK0 ln_1_92 dX3_copyDraft_16 ?_
    obtain ⟨D6, he5, h⟩ := z_bind h
    refine v_callV o yw_X5_add ln_3_104 wi_X5_add ws_X5_add hX (by decide) 5 rfl n2 (As := [.int (z_I D4 310 a0)]) rfl rfl (Nat.le_of_ble_eq_true rfl) (e_X5_add n2 he5) dX3_copyDraft_19 ?_
    refine v_aload_n o dX3_copyDraft_22 rfl 1 rfl ?_
    refine v_aload_n o dX3_copyDraft_23 rfl 0 rfl ?_
    obtain ⟨n7, h⟩ := z_gK_of h
    refine gt_3_9 o hK0 ln_1_91 (by rw [n7]; decide) dX3_copyDraft_24 ?_
    obtain ⟨r9, he8, h⟩ := z_bind h
    refine v_callV o yw_X5_size ln_3_136 wi_X5_size ws_X5_size hX (by decide) 5 rfl n7 (As := []) rfl rfl (Nat.le_of_ble_eq_true rfl) (e_X5_size n7 he8) dX3_copyDraft_27 ?_
    refine v_i2l o dX3_copyDraft_30 ?_
    refine v_iconst o (2 : Int32) dX3_copyDraft_31 (by decide) ?_
    obtain ⟨D11, he10, h⟩ := z_bind h
    refine v_callV o yw_X5_addNumber ln_3_122 wi_X5_addNumber ws_X5_addNumber hX (by decide) 5 rfl n2 (As := [.long (r9).toInt64, .int (2 : Int32)]) rfl rfl (Nat.le_of_ble_eq_true rfl) (e_X5_addNumber n2 he10) dX3_copyDraft_32 ?_
    refine v_aload_n o dX3_copyDraft_35 rfl 1 rfl ?_
    refine v_aload_n o dX3_copyDraft_36 rfl 0 rfl ?_
    refine gt_3_9 o hK0 ln_1_91 (by rw [n7]; decide) dX3_copyDraft_37 ?_
    refine v_iconst o (0 : Int32) dX3_copyDraft_40 (by decide) ?_
    refine v_aload_n o dX3_copyDraft_41 rfl 0 rfl ?_
    refine gt_3_9 o hK0 ln_1_91 (by rw [n7]; decide) dX3_copyDraft_42 ?_
    obtain ⟨r13, he12, h⟩ := z_bind h
    refine v_callV o yw_X5_size ln_3_136 wi_X5_size ws_X5_size hX (by decide) 5 rfl n7 (As := []) rfl rfl (Nat.le_of_ble_eq_true rfl) (e_X5_size n7 he12) dX3_copyDraft_45 ?_
    obtain ⟨D15, he14, h⟩ := z_bind h
    refine v_callV o yw_X5_addFrom ln_3_161 wi_X5_addFrom ws_X5_addFrom hX (by decide) 5 rfl n2 (As := [.ref (z_w q (z_R G 309 a0)), .int (0 : Int32), .int r13]) rfl rfl (Nat.le_of_ble_eq_true rfl) (e_X5_addFrom n2 he14) dX3_copyDraft_48 ?_
    refine v_aload_n o dX3_copyDraft_51 rfl 1 rfl ?_
    refine v_aload_n o dX3_copyDraft_52 rfl 0 rfl ?_
    refine gt_3_11 o hK0 ln_1_93 dX3_copyDraft_53 ?_
    obtain ⟨D17, he16, h⟩ := z_bind h
    refine v_callV o yw_X5_addKeys ln_3_127 wi_X5_addKeys ws_X5_addKeys hX (by decide) 5 rfl n2 (As := [.int (z_I D15 311 a0)]) rfl rfl (Nat.le_of_ble_eq_true rfl) (e_X5_addKeys n2 he16) dX3_copyDraft_56 ?_
    refine v_aload_n o dX3_copyDraft_59 rfl 1 rfl ?_
    obtain ⟨r19, he18, h⟩ := z_bind h
    refine v_callV o yw_X5_size ln_3_136 wi_X5_size ws_X5_size hX (by decide) 5 rfl n2 (As := []) rfl rfl (Nat.le_of_ble_eq_true rfl) (e_X5_size n2 he18) dX3_copyDraft_60 ?_
    obtain ⟨hr, hs⟩ := Prod.mk.inj (z_some h)
    subst hr
    subst hs
    exact v_ireturn o dX3_copyDraft_63
  · replace h := z_ip c1 h
    refine v_iconst o (-1 : Int32) dX3_copyDraft_8 (by decide) ?_
    obtain ⟨hr, hs⟩ := Prod.mk.inj (z_some h)
    subst hr
    subst hs
    exact v_ireturn o dX3_copyDraft_9
theorem e_X3_copyDraft {q : z_Q} {l : Launch} {G : z_G} {D : z_D} {a0 : Nat} {a1 : Nat} {r : Int32} {D1 : z_D} (hK0 : z_K G a0 = 103) (h : f_X3_copyDraft G D a0 a1 = some (r, D1)) : z_E q l yX3_copyDraft cX3_copyDraft 2 (some .int) 2 0 0 [.ref (z_w q a0), .ref (z_w q a1)] G D (some (.int r)) G D1 :=
  z_E.of (by decide) (Nat.le_of_ble_eq_true rfl) (fun X hX _ o => b_X3_copyDraft o hX hK0 h)
def p_X3_copyPiece_3 (q : z_Q) (X : z_X) (Q : State → Prop) (G : z_G) (D : z_D) (a0 : Nat) (a1 : Int32) (a2 : Int32) (a3 : Nat) : Int32 → Prop := (fun v => z_V q X 6 Q 0 0 G D 3 [(0, .ref (z_w q a0)), (1, .int a1), (2, .int a2), (3, .ref (z_w q a3)), (4, .int v)] [])
def x_X3_copyPiece_3 (q : z_Q) (X : z_X) (Q : State → Prop) (G : z_G) (D : z_D) (a0 : Nat) (a1 : Int32) (a2 : Int32) (a3 : Nat) : (Int32 ⊕ Unit) → Prop := (Sum.elim (fun v => z_V q X 6 Q 0 0 G D 49 [(0, .ref (z_w q a0)), (2, .int a2), (3, .ref (z_w q a3)), (4, .int v)] []) (fun v => z_V q X 6 Q 0 0 G D 94 [] []))
def k_X3_copyPiece_3 (q : z_Q) (X : z_X) (Q : State → Prop) (G : z_G) (D : z_D) (a0 : Nat) (a1 : Int32) (a2 : Int32) (a3 : Nat) : Int32 ⊕ (Int32 ⊕ Unit) → Prop := Sum.elim (p_X3_copyPiece_3 q X Q G D a0 a1 a2 a3) (x_X3_copyPiece_3 q X Q G D a0 a1 a2 a3)
def c_X3_copyPiece_3 (G : z_G) (D : z_D) (a0 : Nat) (a1 : Int32) (a2 : Int32) (a3 : Nat) (a4 : Int32) : Option (Int32 ⊕ (Int32 ⊕ Unit)) :=
  (if (z_I D 303 a0) ≤ a4 then (some (.inr (.inr ()))) else ((if (4 : Int32) ≤ a4 then (some (.inr (.inr ()))) else (z_gK G 1 (z_R G 304 a0) (z_gA G 1 (z_R G 304 a0) a4 ((if (z_U D (z_R G 304 a0) (a4).toNatClampNeg) = a1 then ((if a2 < (0 : Int32) then ((some (.inl (a4 + (1 : Int32))))) else (z_gK G 1 (z_R G 305 a0) (z_gA G 1 (z_R G 305 a0) a4 ((if (((z_U D (z_R G 305 a0) (a4).toNatClampNeg) - (1 : Int32)) / (64 : Int32)) < a2 then ((some (.inl (a4 + (1 : Int32))))) else (some (.inr (.inl a4))))))))) else ((some (.inl (a4 + (1 : Int32))))))))))))
set_option maxRecDepth 100000 in
set_option maxHeartbeats 4000000 in
theorem tc_X3_copyPiece_3 {q : z_Q} {X : z_X} {G : z_G} {D : z_D} {Q : State → Prop} {a0 : Nat} {a1 : Int32} {a2 : Int32} {a3 : Nat} {a4 : Int32} (o : z_O q X cX3_copyPiece 6 "FlashTrust$Maker" "copyPiece" (some .int)) (hX : x_R X = z_rm 2 0 0) (hK0 : z_K G a0 = 103) {ρ : Int32 ⊕ (Int32 ⊕ Unit)} (h : c_X3_copyPiece_3 G D a0 a1 a2 a3 a4 = some ρ) (hk : k_X3_copyPiece_3 q X Q G D a0 a1 a2 a3 ρ) : z_V q X 6 Q 0 0 G D 3 [(0, .ref (z_w q a0)), (1, .int a1), (2, .int a2), (3, .ref (z_w q a3)), (4, .int a4)] [] := by
  unfold c_X3_copyPiece_3 at h
  refine v_iload o dX3_copyPiece_3 4 rfl ?_
  refine v_aload_n o dX3_copyPiece_5 rfl 0 rfl ?_
  refine gt_3_3 o hK0 ln_1_85 dX3_copyPiece_6 ?_
  refine v_icmp_ge o 94 dX3_copyPiece_9 (by decide) (fun c1 => ?_) (fun c1 => ?_)
  · replace h := z_ip c1 h
    obtain rfl := z_some h
    refine v_sub [] rfl ?_
    exact hk
  · replace h := z_in c1 h
    refine v_iload o dX3_copyPiece_12 4 rfl ?_
    refine v_iconst o (4 : Int32) dX3_copyPiece_14 (by decide) ?_
    refine v_icmp_ge o 94 dX3_copyPiece_15 (by decide) (fun c2 => ?_) (fun c2 => ?_)
    · replace h := z_ip c2 h
      obtain rfl := z_some h
      refine v_sub [] rfl ?_
      exact hk
    · replace h := z_in c2 h
      refine v_aload_n o dX3_copyPiece_18 rfl 0 rfl ?_
      obtain ⟨n3, h⟩ := z_gK_of h
      refine gt_3_4 o hK0 ln_1_86 (by rw [n3]; decide) dX3_copyPiece_19 ?_
      refine v_iload o dX3_copyPiece_22 4 rfl ?_
      obtain ⟨n4, n5, h⟩ := z_gA_of h
      refine v_iald o n4 n5 dX3_copyPiece_24 ?_
      refine v_iload_n o dX3_copyPiece_25 rfl 1 rfl ?_
      refine v_icmp_ne o 88 dX3_copyPiece_26 (by decide) (fun c6 => ?_) (fun c6 => ?_)
      · replace h := z_in c6 h
        refine v_iinc o (a4 + (1 : Int32)) [(4, .int (a4 + (1 : Int32))), (0, .ref (z_w q a0)), (1, .int a1), (2, .int a2), (3, .ref (z_w q a3))] dX3_copyPiece_88 4 rfl rfl (by decide) rfl ?_
        refine v_goto o 3 dX3_copyPiece_91 (by decide) ?_
        obtain rfl := z_some h
        refine v_sub [1, 2, 3, 4, 0] rfl ?_
        exact hk
      · replace h := z_ip c6 h
        refine v_iload_n o dX3_copyPiece_29 rfl 2 rfl ?_
        refine v_if_lt o 88 dX3_copyPiece_30 (by decide) (fun c7 => ?_) (fun c7 => ?_)
        · replace h := z_ip c7 h
          refine v_iinc o (a4 + (1 : Int32)) [(4, .int (a4 + (1 : Int32))), (0, .ref (z_w q a0)), (1, .int a1), (2, .int a2), (3, .ref (z_w q a3))] dX3_copyPiece_88 4 rfl rfl (by decide) rfl ?_
          refine v_goto o 3 dX3_copyPiece_91 (by decide) ?_
          obtain rfl := z_some h
          refine v_sub [1, 2, 3, 4, 0] rfl ?_
          exact hk
        · replace h := z_in c7 h
          refine v_iload_n o dX3_copyPiece_33 rfl 2 rfl ?_
          refine v_aload_n o dX3_copyPiece_34 rfl 0 rfl ?_
          obtain ⟨n8, h⟩ := z_gK_of h
          refine gt_3_5 o hK0 ln_1_87 (by rw [n8]; decide) dX3_copyPiece_35 ?_
          refine v_iload o dX3_copyPiece_38 4 rfl ?_
          obtain ⟨n9, n10, h⟩ := z_gA_of h
          refine v_iald o n9 n10 dX3_copyPiece_40 ?_
          refine v_iconst o (1 : Int32) dX3_copyPiece_41 (by decide) ?_
          refine v_isub o dX3_copyPiece_42 ?_
          refine v_bipush o (64 : Int32) dX3_copyPiece_43 (by decide) ?_
          refine v_idiv o dX3_copyPiece_45 (by decide) ?_
          refine v_icmp_gt o 88 dX3_copyPiece_46 (by decide) (fun c11 => ?_) (fun c11 => ?_)
          · replace h := z_ip c11 h
            refine v_iinc o (a4 + (1 : Int32)) [(4, .int (a4 + (1 : Int32))), (0, .ref (z_w q a0)), (1, .int a1), (2, .int a2), (3, .ref (z_w q a3))] dX3_copyPiece_88 4 rfl rfl (by decide) rfl ?_
            refine v_goto o 3 dX3_copyPiece_91 (by decide) ?_
            obtain rfl := z_some h
            refine v_sub [1, 2, 3, 4, 0] rfl ?_
            exact hk
          · replace h := z_in c11 h
            obtain rfl := z_some h
            refine v_sub [0, 2, 3, 4] rfl ?_
            exact hk
def f_X3_copyPiece (G : z_G) (D : z_D) (a0 : Nat) (a1 : Int32) (a2 : Int32) (a3 : Nat) : Option (Int32 × z_D) :=
  ((z_loop (fun v => c_X3_copyPiece_3 G D a0 a1 a2 a3 v) 4000 (0 : Int32)).bind (Sum.elim (fun e12 => z_gK G 105 a3 ((f_X5_empty G D a3).bind (fun D16 => (z_gK G 1 (z_R G 305 a0) (z_gA G 1 (z_R G 305 a0) e12 ((f_X3_addProgram G D16 a0 a3 e12 (a2 * (64 : Int32)) (if (z_U D16 (z_R G 305 a0) (e12).toNatClampNeg) < ((a2 * (64 : Int32)) + (64 : Int32)) then (z_U D16 (z_R G 305 a0) (e12).toNatClampNeg) else ((a2 * (64 : Int32)) + (64 : Int32)))).bind (fun D21 => ((f_X5_size G D21 a3).bind (fun r23 => ((some (r23, D21)))))))))))) (fun e12 => (some ((-1 : Int32), D)))))
set_option maxRecDepth 100000 in
set_option maxHeartbeats 4000000 in
theorem b_X3_copyPiece {q : z_Q} {X : z_X} {G : z_G} {D : z_D} {a0 : Nat} {a1 : Int32} {a2 : Int32} {a3 : Nat} {r : Int32} {D1 : z_D} (o : z_O q X cX3_copyPiece 6 "FlashTrust$Maker" "copyPiece" (some .int)) (hX : x_R X = z_rm 2 0 0) (hK0 : z_K G a0 = 103) (h : f_X3_copyPiece G D a0 a1 a2 a3 = some (r, D1)) : z_V q X 6 (z_F q X (some (.int r)) G D1 0 0) 0 0 G D 0 [(0, .ref (z_w q a0)), (1, .int a1), (2, .int a2), (3, .ref (z_w q a3))] [] := by
  unfold f_X3_copyPiece at h
  refine v_iconst o (0 : Int32) dX3_copyPiece_0 (by decide) ?_
  refine v_istore o [(4, .int (0 : Int32)), (0, .ref (z_w q a0)), (1, .int a1), (2, .int a2), (3, .ref (z_w q a3))] dX3_copyPiece_1 (by decide) rfl ?_
  refine v_sub [1, 2, 3, 4, 0] rfl ?_
  obtain ⟨e12, he13, h⟩ := z_bind h
  refine z_loopV (P := p_X3_copyPiece_3 q X _ G D a0 a1 a2 a3) (E := x_X3_copyPiece_3 q X _ G D a0 a1 a2 a3) (fun v ρ hb hk => tc_X3_copyPiece_3 (D := D) (a0 := a0) (a1 := a1) (a2 := a2) (a3 := a3) (a4 := v) o hX hK0 hb hk) 4000 _ e12 he13 ?_
  rcases e12 with e12 | e12
  · replace h := z_el h
    show z_V q X 6 _ _ _ G D 49 [(0, .ref (z_w q a0)), (2, .int a2), (3, .ref (z_w q a3)), (4, .int e12)] []
    refine v_iload_n o dX3_copyPiece_49 rfl 1 rfl ?_
    refine v_bipush o (64 : Int32) dX3_copyPiece_50 (by decide) ?_
    refine v_imul o dX3_copyPiece_52 ?_
    refine v_istore o [(5, .int (a2 * (64 : Int32))), (0, .ref (z_w q a0)), (2, .int a2), (3, .ref (z_w q a3)), (4, .int e12)] dX3_copyPiece_53 (by decide) rfl ?_
    refine v_aload_n o dX3_copyPiece_55 rfl 3 rfl ?_
    obtain ⟨n14, h⟩ := z_gK_of h
    obtain ⟨D16, he15, h⟩ := z_bind h
    refine v_callV o yw_X5_empty ln_3_99 wi_X5_empty ws_X5_empty hX (by decide) 5 rfl n14 (As := []) rfl rfl (Nat.le_of_ble_eq_true rfl) (e_X5_empty n14 he15) dX3_copyPiece_56 ?_
    refine v_aload_n o dX3_copyPiece_59 rfl 1 rfl ?_
    refine v_aload_n o dX3_copyPiece_60 rfl 3 rfl ?_
    refine v_iload o dX3_copyPiece_61 4 rfl ?_
    refine v_iload o dX3_copyPiece_63 0 rfl ?_
    refine v_iload o dX3_copyPiece_65 0 rfl ?_
    refine v_bipush o (64 : Int32) dX3_copyPiece_67 (by decide) ?_
    refine v_iadd o dX3_copyPiece_69 ?_
    refine v_aload_n o dX3_copyPiece_70 rfl 1 rfl ?_
    obtain ⟨n17, h⟩ := z_gK_of h
    refine gt_3_5 o hK0 ln_1_87 (by rw [n17]; decide) dX3_copyPiece_71 ?_
    refine v_iload o dX3_copyPiece_74 4 rfl ?_
    obtain ⟨n18, n19, h⟩ := z_gA_of h
    refine v_iald o n18 n19 dX3_copyPiece_76 ?_
    refine v_mmin o ln_3_174 hX (by decide) (Nat.le_of_ble_eq_true rfl) dX3_copyPiece_77 ?_
    obtain ⟨D21, he20, h⟩ := z_bind h
    refine v_callV o yw_X3_addProgram ln_3_100 wi_X3_addProgram ws_X3_addProgram hX (by decide) 3 rfl hK0 (As := [.ref (z_w q a3), .int e12, .int (a2 * (64 : Int32)), .int (if (z_U D16 (z_R G 305 a0) (e12).toNatClampNeg) < ((a2 * (64 : Int32)) + (64 : Int32)) then (z_U D16 (z_R G 305 a0) (e12).toNatClampNeg) else ((a2 * (64 : Int32)) + (64 : Int32)))]) rfl rfl (Nat.le_of_ble_eq_true rfl) (e_X3_addProgram hK0 he20) dX3_copyPiece_80 ?_
    refine v_aload_n o dX3_copyPiece_83 rfl 3 rfl ?_
    obtain ⟨r23, he22, h⟩ := z_bind h
    refine v_callV o yw_X5_size ln_3_136 wi_X5_size ws_X5_size hX (by decide) 5 rfl n14 (As := []) rfl rfl (Nat.le_of_ble_eq_true rfl) (e_X5_size n14 he22) dX3_copyPiece_84 ?_
    obtain ⟨hr, hs⟩ := Prod.mk.inj (z_some h)
    subst hr
    subst hs
    exact v_ireturn o dX3_copyPiece_87
  · replace h := z_er h
    show z_V q X 6 _ _ _ G D 94 [] []
    refine v_iconst o (-1 : Int32) dX3_copyPiece_94 (by decide) ?_
    obtain ⟨hr, hs⟩ := Prod.mk.inj (z_some h)
    subst hr
    subst hs
    exact v_ireturn o dX3_copyPiece_95
theorem e_X3_copyPiece {q : z_Q} {l : Launch} {G : z_G} {D : z_D} {a0 : Nat} {a1 : Int32} {a2 : Int32} {a3 : Nat} {r : Int32} {D1 : z_D} (hK0 : z_K G a0 = 103) (h : f_X3_copyPiece G D a0 a1 a2 a3 = some (r, D1)) : z_E q l yX3_copyPiece cX3_copyPiece 6 (some .int) 2 0 0 [.ref (z_w q a0), .int a1, .int a2, .ref (z_w q a3)] G D (some (.int r)) G D1 :=
  z_E.of (by decide) (Nat.le_of_ble_eq_true rfl) (fun X hX _ o => b_X3_copyPiece o hX hK0 h)
def f_X2_isSettled (G : z_G) (D : z_D) (a0 : Nat) : Option (Int32) :=
  (if (z_I D 202 a0) ≤ (0 : Int32) then ((some (0 : Int32))) else ((if (z_I D 203 a0) = (0 : Int32) then (((some (1 : Int32)))) else ((some (0 : Int32))))))
set_option maxRecDepth 100000 in
set_option maxHeartbeats 4000000 in
theorem b_X2_isSettled {q : z_Q} {X : z_X} {G : z_G} {D : z_D} {a0 : Nat} {r : Int32} (o : z_O q X cX2_isSettled 1 "FlashTrust$Loader" "isSettled" (some .boolean)) (hX : x_R X = z_rm 0 0 0) (hK0 : z_K G a0 = 102) (h : f_X2_isSettled G D a0 = some r) : z_V q X 1 (z_F q X (some (.int r)) G D 0 0) 0 0 G D 0 [(0, .ref (z_w q a0))] [] := by
  unfold f_X2_isSettled at h
  refine v_aload_n o dX2_isSettled_0 rfl 0 rfl ?_
  refine gt_2_2 o hK0 ln_2_209 dX2_isSettled_1 ?_
  refine v_if_le o 18 dX2_isSettled_4 (by decide) (fun c1 => ?_) (fun c1 => ?_)
  · replace h := z_ip c1 h
    refine v_iconst o (0 : Int32) dX2_isSettled_18 (by decide) ?_
    have hr := z_some h
    subst hr
    exact v_zreturn o (by decide) dX2_isSettled_19
  · replace h := z_in c1 h
    refine v_aload_n o dX2_isSettled_7 rfl 0 rfl ?_
    refine gt_2_3 o hK0 ln_2_211 dX2_isSettled_8 ?_
    refine v_if_ne o 18 dX2_isSettled_11 (by decide) (fun c2 => ?_) (fun c2 => ?_)
    · replace h := z_in c2 h
      refine v_iconst o (0 : Int32) dX2_isSettled_18 (by decide) ?_
      have hr := z_some h
      subst hr
      exact v_zreturn o (by decide) dX2_isSettled_19
    · replace h := z_ip c2 h
      refine v_iconst o (1 : Int32) dX2_isSettled_14 (by decide) ?_
      refine v_goto o 19 dX2_isSettled_15 (by decide) ?_
      have hr := z_some h
      subst hr
      exact v_zreturn o (by decide) dX2_isSettled_19
theorem e_X2_isSettled {q : z_Q} {l : Launch} {G : z_G} {D : z_D} {a0 : Nat} {r : Int32} (hK0 : z_K G a0 = 102) (h : f_X2_isSettled G D a0 = some r) : z_E q l yX2_isSettled cX2_isSettled 1 (some .boolean) 0 0 0 [.ref (z_w q a0)] G D (some (.int r)) G D :=
  z_E.of (by decide) (Nat.le_of_ble_eq_true rfl) (fun X hX _ o => b_X2_isSettled o hX hK0 h)
def f_X2_halt (G : z_G) (D : z_D) (a0 : Nat) : Option (z_D) :=
  (some (z_sI (z_sI D 202 a0 (0 : Int32)) 203 a0 (0 : Int32)))
set_option maxRecDepth 100000 in
set_option maxHeartbeats 4000000 in
theorem b_X2_halt {q : z_Q} {X : z_X} {G : z_G} {D : z_D} {a0 : Nat}  {D1 : z_D} (o : z_O q X cX2_halt 1 "FlashTrust$Loader" "halt" none) (hX : x_R X = z_rm 0 0 0) (hK0 : z_K G a0 = 102) (h : f_X2_halt G D a0 = some D1) : z_V q X 1 (z_F q X none G D1 0 0) 0 0 G D 0 [(0, .ref (z_w q a0))] [] := by
  unfold f_X2_halt at h
  refine v_aload_n o dX2_halt_0 rfl 0 rfl ?_
  refine v_iconst o (0 : Int32) dX2_halt_1 (by decide) ?_
  refine pt_2_2 o hK0 ln_2_209 dX2_halt_2 ?_
  refine v_aload_n o dX2_halt_5 rfl 0 rfl ?_
  refine v_iconst o (0 : Int32) dX2_halt_6 (by decide) ?_
  refine pt_2_3 o hK0 ln_2_211 (by decide) dX2_halt_7 ?_
  have hr := z_some h
  subst hr
  exact v_return o dX2_halt_10
theorem e_X2_halt {q : z_Q} {l : Launch} {G : z_G} {D : z_D} {a0 : Nat}  {D1 : z_D} (hK0 : z_K G a0 = 102) (h : f_X2_halt G D a0 = some D1) : z_E q l yX2_halt cX2_halt 1 none 0 0 0 [.ref (z_w q a0)] G D none G D1 :=
  z_E.of (by decide) (Nat.le_of_ble_eq_true rfl) (fun X hX _ o => b_X2_halt o hX hK0 h)
def f_X2_startConfirmed (G : z_G) (D : z_D) (a0 : Nat) : Option (Int32 × z_D) :=
  z_gK G 101 (z_R G 200 a0) ((f_X1_isDown G D (z_R G 200 a0)).bind (fun r3 => ((if r3 = (0 : Int32) then (z_gK G 108 (z_R G 201 a0) ((f_X1_programHash G D (z_R G 200 a0) (z_I D 806 (z_R G 201 a0)) (z_I D 808 (z_R G 201 a0))).bind (fun r7 => ((if (lg_cmp r7 (z_J D 809 (z_R G 201 a0))) = (0 : Int32) then ((some ((z_I (z_sI D 202 a0 (z_I D 807 (z_R G 201 a0))) 202 a0), (z_sI D 202 a0 (z_I D 807 (z_R G 201 a0)))))) else ((some ((-2 : Int32), D)))))))) else ((some ((-3 : Int32), D)))))))
set_option maxRecDepth 100000 in
set_option maxHeartbeats 4000000 in
theorem b_X2_startConfirmed {q : z_Q} {X : z_X} {G : z_G} {D : z_D} {a0 : Nat} {r : Int32} {D1 : z_D} (o : z_O q X cX2_startConfirmed 1 "FlashTrust$Loader" "startConfirmed" (some .int)) (hX : x_R X = z_rm 2 0 0) (hK0 : z_K G a0 = 102) (h : f_X2_startConfirmed G D a0 = some (r, D1)) : z_V q X 1 (z_F q X (some (.int r)) G D1 0 0) 0 0 G D 0 [(0, .ref (z_w q a0))] [] := by
  unfold f_X2_startConfirmed at h
  refine v_aload_n o dX2_startConfirmed_0 rfl 0 rfl ?_
  obtain ⟨n1, h⟩ := z_gK_of h
  refine gt_2_0 o hK0 ln_2_207 (by rw [n1]; decide) dX2_startConfirmed_1 ?_
  obtain ⟨r3, he2, h⟩ := z_bind h
  refine v_callV o yw_X1_isDown ln_4_214 wi_X1_isDown ws_X1_isDown hX (by decide) 1 rfl n1 (As := []) rfl rfl (Nat.le_of_ble_eq_true rfl) (e_X1_isDown n1 he2) dX2_startConfirmed_4 ?_
  refine v_if_eq o 13 dX2_startConfirmed_7 (by decide) (fun c4 => ?_) (fun c4 => ?_)
  · replace h := z_ip c4 h
    refine v_aload_n o dX2_startConfirmed_13 rfl 0 rfl ?_
    refine gt_2_0 o hK0 ln_2_207 (by rw [n1]; decide) dX2_startConfirmed_14 ?_
    refine v_aload_n o dX2_startConfirmed_17 rfl 0 rfl ?_
    obtain ⟨n5, h⟩ := z_gK_of h
    refine gt_2_1 o hK0 ln_2_208 (by rw [n5]; decide) dX2_startConfirmed_18 ?_
    refine gt_8_6 o n5 ln_2_91 dX2_startConfirmed_21 ?_
    refine v_aload_n o dX2_startConfirmed_24 rfl 0 rfl ?_
    refine gt_2_1 o hK0 ln_2_208 (by rw [n5]; decide) dX2_startConfirmed_25 ?_
    refine gt_8_8 o n5 ln_2_96 dX2_startConfirmed_28 ?_
    obtain ⟨r7, he6, h⟩ := z_bind h
    refine v_callV o yw_X1_programHash ln_4_216 wi_X1_programHash ws_X1_programHash hX (by decide) 1 rfl n1 (As := [.int (z_I D 806 (z_R G 201 a0)), .int (z_I D 808 (z_R G 201 a0))]) rfl rfl (Nat.le_of_ble_eq_true rfl) (e_X1_programHash n1 he6) dX2_startConfirmed_31 ?_
    refine v_aload_n o dX2_startConfirmed_34 rfl 0 rfl ?_
    refine gt_2_1 o hK0 ln_2_208 (by rw [n5]; decide) dX2_startConfirmed_35 ?_
    refine gt_8_9 o n5 ln_2_98 dX2_startConfirmed_38 ?_
    refine v_lcmp o dX2_startConfirmed_41 ?_
    refine v_if_eq o 48 dX2_startConfirmed_42 (by decide) (fun c8 => ?_) (fun c8 => ?_)
    · replace h := z_ip c8 h
      refine v_aload_n o dX2_startConfirmed_48 rfl 0 rfl ?_
      refine v_aload_n o dX2_startConfirmed_49 rfl 0 rfl ?_
      refine gt_2_1 o hK0 ln_2_208 (by rw [n5]; decide) dX2_startConfirmed_50 ?_
      refine gt_8_7 o n5 ln_2_93 dX2_startConfirmed_53 ?_
      refine pt_2_2 o hK0 ln_2_209 dX2_startConfirmed_56 ?_
      refine v_aload_n o dX2_startConfirmed_59 rfl 0 rfl ?_
      refine gt_2_2 o hK0 ln_2_209 dX2_startConfirmed_60 ?_
      obtain ⟨hr, hs⟩ := Prod.mk.inj (z_some h)
      subst hr
      subst hs
      exact v_ireturn o dX2_startConfirmed_63
    · replace h := z_in c8 h
      refine v_bipush o (-2 : Int32) dX2_startConfirmed_45 (by decide) ?_
      obtain ⟨hr, hs⟩ := Prod.mk.inj (z_some h)
      subst hr
      subst hs
      exact v_ireturn o dX2_startConfirmed_47
  · replace h := z_in c4 h
    refine v_bipush o (-3 : Int32) dX2_startConfirmed_10 (by decide) ?_
    obtain ⟨hr, hs⟩ := Prod.mk.inj (z_some h)
    subst hr
    subst hs
    exact v_ireturn o dX2_startConfirmed_12
theorem e_X2_startConfirmed {q : z_Q} {l : Launch} {G : z_G} {D : z_D} {a0 : Nat} {r : Int32} {D1 : z_D} (hK0 : z_K G a0 = 102) (h : f_X2_startConfirmed G D a0 = some (r, D1)) : z_E q l yX2_startConfirmed cX2_startConfirmed 1 (some .int) 2 0 0 [.ref (z_w q a0)] G D (some (.int r)) G D1 :=
  z_E.of (by decide) (Nat.le_of_ble_eq_true rfl) (fun X hX _ o => b_X2_startConfirmed o hX hK0 h)
def f_X2_startTrial (G : z_G) (D : z_D) (a0 : Nat) : Option (Int32 × z_D) :=
  z_gK G 108 (z_R G 201 a0) ((f_X8_store G (z_sI D 810 (z_R G 201 a0) (3 : Int32)) (z_R G 201 a0)).bind (fun D3 => (z_gK G 101 (z_R G 200 a0) ((f_X1_isDown G D3 (z_R G 200 a0)).bind (fun r6 => ((if r6 = (0 : Int32) then ((f_X8_otherSlot G D3 (z_R G 201 a0)).bind (fun r9 => ((f_X1_programHash G D3 (z_R G 200 a0) r9 (z_I D3 812 (z_R G 201 a0))).bind (fun r11 => ((if (lg_cmp r11 (z_J D3 813 (z_R G 201 a0))) = (0 : Int32) then ((some ((z_I (z_sI (z_sI D3 202 a0 (z_I D3 811 (z_R G 201 a0))) 203 a0 (1 : Int32)) 202 a0), (z_sI (z_sI D3 202 a0 (z_I D3 811 (z_R G 201 a0))) 203 a0 (1 : Int32))))) else ((f_X8_stageNothing G D3 (z_R G 201 a0)).bind (fun D14 => ((f_X8_store G D14 (z_R G 201 a0)).bind (fun D16 => ((f_X2_startConfirmed G D16 a0).bind (fun p18 => ((some (p18.1, p18.2))))))))))))))) else ((some ((-3 : Int32), D3))))))))))
set_option maxRecDepth 100000 in
set_option maxHeartbeats 4000000 in
theorem b_X2_startTrial {q : z_Q} {X : z_X} {G : z_G} {D : z_D} {a0 : Nat} {r : Int32} {D1 : z_D} (o : z_O q X cX2_startTrial 1 "FlashTrust$Loader" "startTrial" (some .int)) (hX : x_R X = z_rm 4 0 0) (hK0 : z_K G a0 = 102) (h : f_X2_startTrial G D a0 = some (r, D1)) : z_V q X 1 (z_F q X (some (.int r)) G D1 0 0) 0 0 G D 0 [(0, .ref (z_w q a0))] [] := by
  unfold f_X2_startTrial at h
  refine v_aload_n o dX2_startTrial_0 rfl 0 rfl ?_
  obtain ⟨n1, h⟩ := z_gK_of h
  refine gt_2_1 o hK0 ln_2_208 (by rw [n1]; decide) dX2_startTrial_1 ?_
  refine v_iconst o (3 : Int32) dX2_startTrial_4 (by decide) ?_
  refine pt_8_10 o n1 ln_2_100 dX2_startTrial_5 ?_
  refine v_aload_n o dX2_startTrial_8 rfl 0 rfl ?_
  refine gt_2_1 o hK0 ln_2_208 (by rw [n1]; decide) dX2_startTrial_9 ?_
  obtain ⟨D3, he2, h⟩ := z_bind h
  refine v_callV o yw_X8_store ln_4_213 wi_X8_store ws_X8_store hX (by decide) 8 rfl n1 (As := []) rfl rfl (Nat.le_of_ble_eq_true rfl) (e_X8_store n1 he2) dX2_startTrial_12 ?_
  refine v_aload_n o dX2_startTrial_15 rfl 0 rfl ?_
  obtain ⟨n4, h⟩ := z_gK_of h
  refine gt_2_0 o hK0 ln_2_207 (by rw [n4]; decide) dX2_startTrial_16 ?_
  obtain ⟨r6, he5, h⟩ := z_bind h
  refine v_callV o yw_X1_isDown ln_4_214 wi_X1_isDown ws_X1_isDown hX (by decide) 1 rfl n4 (As := []) rfl rfl (Nat.le_of_ble_eq_true rfl) (e_X1_isDown n4 he5) dX2_startTrial_19 ?_
  refine v_if_eq o 28 dX2_startTrial_22 (by decide) (fun c7 => ?_) (fun c7 => ?_)
  · replace h := z_ip c7 h
    refine v_aload_n o dX2_startTrial_28 rfl 0 rfl ?_
    refine gt_2_0 o hK0 ln_2_207 (by rw [n4]; decide) dX2_startTrial_29 ?_
    refine v_aload_n o dX2_startTrial_32 rfl 0 rfl ?_
    refine gt_2_1 o hK0 ln_2_208 (by rw [n1]; decide) dX2_startTrial_33 ?_
    obtain ⟨r9, he8, h⟩ := z_bind h
    refine v_callV o yw_X8_otherSlot ln_4_215 wi_X8_otherSlot ws_X8_otherSlot hX (by decide) 8 rfl n1 (As := []) rfl rfl (Nat.le_of_ble_eq_true rfl) (e_X8_otherSlot n1 he8) dX2_startTrial_36 ?_
    refine v_aload_n o dX2_startTrial_39 rfl 0 rfl ?_
    refine gt_2_1 o hK0 ln_2_208 (by rw [n1]; decide) dX2_startTrial_40 ?_
    refine gt_8_12 o n1 ln_2_106 dX2_startTrial_43 ?_
    obtain ⟨r11, he10, h⟩ := z_bind h
    refine v_callV o yw_X1_programHash ln_4_216 wi_X1_programHash ws_X1_programHash hX (by decide) 1 rfl n4 (As := [.int r9, .int (z_I D3 812 (z_R G 201 a0))]) rfl rfl (Nat.le_of_ble_eq_true rfl) (e_X1_programHash n4 he10) dX2_startTrial_46 ?_
    refine v_aload_n o dX2_startTrial_49 rfl 0 rfl ?_
    refine gt_2_1 o hK0 ln_2_208 (by rw [n1]; decide) dX2_startTrial_50 ?_
    refine gt_8_13 o n1 ln_2_109 dX2_startTrial_53 ?_
    refine v_lcmp o dX2_startTrial_56 ?_
    refine v_if_ne o 81 dX2_startTrial_57 (by decide) (fun c12 => ?_) (fun c12 => ?_)
    · replace h := z_in c12 h
      refine v_aload_n o dX2_startTrial_81 rfl 0 rfl ?_
      refine gt_2_1 o hK0 ln_2_208 (by rw [n1]; decide) dX2_startTrial_82 ?_
      obtain ⟨D14, he13, h⟩ := z_bind h
      refine v_callV o yw_X8_stageNothing ln_4_217 wi_X8_stageNothing ws_X8_stageNothing hX (by decide) 8 rfl n1 (As := []) rfl rfl (Nat.le_of_ble_eq_true rfl) (e_X8_stageNothing n1 he13) dX2_startTrial_85 ?_
      refine v_aload_n o dX2_startTrial_88 rfl 0 rfl ?_
      refine gt_2_1 o hK0 ln_2_208 (by rw [n1]; decide) dX2_startTrial_89 ?_
      obtain ⟨D16, he15, h⟩ := z_bind h
      refine v_callV o yw_X8_store ln_4_213 wi_X8_store ws_X8_store hX (by decide) 8 rfl n1 (As := []) rfl rfl (Nat.le_of_ble_eq_true rfl) (e_X8_store n1 he15) dX2_startTrial_92 ?_
      refine v_aload_n o dX2_startTrial_95 rfl 0 rfl ?_
      obtain ⟨p18, he17, h⟩ := z_bind h
      refine v_callV o yw_X2_startConfirmed ln_4_218 wi_X2_startConfirmed ws_X2_startConfirmed hX (by decide) 2 rfl hK0 (As := []) rfl rfl (Nat.le_of_ble_eq_true rfl) (e_X2_startConfirmed hK0 he17) dX2_startTrial_96 ?_
      obtain ⟨hr, hs⟩ := Prod.mk.inj (z_some h)
      subst hr
      subst hs
      exact v_ireturn o dX2_startTrial_99
    · replace h := z_ip c12 h
      refine v_aload_n o dX2_startTrial_60 rfl 0 rfl ?_
      refine v_aload_n o dX2_startTrial_61 rfl 0 rfl ?_
      refine gt_2_1 o hK0 ln_2_208 (by rw [n1]; decide) dX2_startTrial_62 ?_
      refine gt_8_11 o n1 ln_2_103 dX2_startTrial_65 ?_
      refine pt_2_2 o hK0 ln_2_209 dX2_startTrial_68 ?_
      refine v_aload_n o dX2_startTrial_71 rfl 0 rfl ?_
      refine v_iconst o (1 : Int32) dX2_startTrial_72 (by decide) ?_
      refine pt_2_3 o hK0 ln_2_211 (by decide) dX2_startTrial_73 ?_
      refine v_aload_n o dX2_startTrial_76 rfl 0 rfl ?_
      refine gt_2_2 o hK0 ln_2_209 dX2_startTrial_77 ?_
      obtain ⟨hr, hs⟩ := Prod.mk.inj (z_some h)
      subst hr
      subst hs
      exact v_ireturn o dX2_startTrial_80
  · replace h := z_in c7 h
    refine v_bipush o (-3 : Int32) dX2_startTrial_25 (by decide) ?_
    obtain ⟨hr, hs⟩ := Prod.mk.inj (z_some h)
    subst hr
    subst hs
    exact v_ireturn o dX2_startTrial_27
theorem e_X2_startTrial {q : z_Q} {l : Launch} {G : z_G} {D : z_D} {a0 : Nat} {r : Int32} {D1 : z_D} (hK0 : z_K G a0 = 102) (h : f_X2_startTrial G D a0 = some (r, D1)) : z_E q l yX2_startTrial cX2_startTrial 1 (some .int) 4 0 0 [.ref (z_w q a0)] G D (some (.int r)) G D1 :=
  z_E.of (by decide) (Nat.le_of_ble_eq_true rfl) (fun X hX _ o => b_X2_startTrial o hX hK0 h)
def f_X2_start (G : z_G) (D : z_D) (a0 : Nat) : Option (Int32 × z_D) :=
  (f_X2_halt G D a0).bind (fun D2 => (z_gK G 108 (z_R G 201 a0) ((if (z_I D2 810 (z_R G 201 a0)) = (2 : Int32) then ((f_X2_startTrial G D2 a0).bind (fun p15 => ((some (p15.1, p15.2))))) else ((if (z_I D2 810 (z_R G 201 a0)) = (3 : Int32) then ((f_X8_stageNothing G D2 (z_R G 201 a0)).bind (fun D9 => ((f_X8_store G D9 (z_R G 201 a0)).bind (fun D11 => ((f_X2_startConfirmed G D11 a0).bind (fun p13 => ((some (p13.1, p13.2))))))))) else ((f_X2_startConfirmed G D2 a0).bind (fun p7 => ((some (p7.1, p7.2)))))))))))
set_option maxRecDepth 100000 in
set_option maxHeartbeats 4000000 in
theorem b_X2_start {q : z_Q} {X : z_X} {G : z_G} {D : z_D} {a0 : Nat} {r : Int32} {D1 : z_D} (o : z_O q X cX2_start 1 "FlashTrust$Loader" "start" (some .int)) (hX : x_R X = z_rm 5 0 0) (hK0 : z_K G a0 = 102) (h : f_X2_start G D a0 = some (r, D1)) : z_V q X 1 (z_F q X (some (.int r)) G D1 0 0) 0 0 G D 0 [(0, .ref (z_w q a0))] [] := by
  unfold f_X2_start at h
  refine v_aload_n o dX2_start_0 rfl 0 rfl ?_
  obtain ⟨D2, he1, h⟩ := z_bind h
  refine v_callV o yw_X2_halt ln_4_208 wi_X2_halt ws_X2_halt hX (by decide) 2 rfl hK0 (As := []) rfl rfl (Nat.le_of_ble_eq_true rfl) (e_X2_halt hK0 he1) dX2_start_1 ?_
  refine v_aload_n o dX2_start_4 rfl 0 rfl ?_
  obtain ⟨n3, h⟩ := z_gK_of h
  refine gt_2_1 o hK0 ln_2_208 (by rw [n3]; decide) dX2_start_5 ?_
  refine gt_8_10 o n3 ln_2_100 dX2_start_8 ?_
  refine v_iconst o (2 : Int32) dX2_start_11 (by decide) ?_
  refine v_icmp_ne o 20 dX2_start_12 (by decide) (fun c4 => ?_) (fun c4 => ?_)
  · replace h := z_in c4 h
    refine v_aload_n o dX2_start_20 rfl 0 rfl ?_
    refine gt_2_1 o hK0 ln_2_208 (by rw [n3]; decide) dX2_start_21 ?_
    refine gt_8_10 o n3 ln_2_100 dX2_start_24 ?_
    refine v_iconst o (3 : Int32) dX2_start_27 (by decide) ?_
    refine v_icmp_ne o 45 dX2_start_28 (by decide) (fun c5 => ?_) (fun c5 => ?_)
    · replace h := z_in c5 h
      refine v_aload_n o dX2_start_45 rfl 0 rfl ?_
      obtain ⟨p7, he6, h⟩ := z_bind h
      refine v_callV o yw_X2_startConfirmed ln_4_218 wi_X2_startConfirmed ws_X2_startConfirmed hX (by decide) 2 rfl hK0 (As := []) rfl rfl (Nat.le_of_ble_eq_true rfl) (e_X2_startConfirmed hK0 he6) dX2_start_46 ?_
      obtain ⟨hr, hs⟩ := Prod.mk.inj (z_some h)
      subst hr
      subst hs
      exact v_ireturn o dX2_start_49
    · replace h := z_ip c5 h
      refine v_aload_n o dX2_start_31 rfl 0 rfl ?_
      refine gt_2_1 o hK0 ln_2_208 (by rw [n3]; decide) dX2_start_32 ?_
      obtain ⟨D9, he8, h⟩ := z_bind h
      refine v_callV o yw_X8_stageNothing ln_4_217 wi_X8_stageNothing ws_X8_stageNothing hX (by decide) 8 rfl n3 (As := []) rfl rfl (Nat.le_of_ble_eq_true rfl) (e_X8_stageNothing n3 he8) dX2_start_35 ?_
      refine v_aload_n o dX2_start_38 rfl 0 rfl ?_
      refine gt_2_1 o hK0 ln_2_208 (by rw [n3]; decide) dX2_start_39 ?_
      obtain ⟨D11, he10, h⟩ := z_bind h
      refine v_callV o yw_X8_store ln_4_213 wi_X8_store ws_X8_store hX (by decide) 8 rfl n3 (As := []) rfl rfl (Nat.le_of_ble_eq_true rfl) (e_X8_store n3 he10) dX2_start_42 ?_
      refine v_aload_n o dX2_start_45 rfl 0 rfl ?_
      obtain ⟨p13, he12, h⟩ := z_bind h
      refine v_callV o yw_X2_startConfirmed ln_4_218 wi_X2_startConfirmed ws_X2_startConfirmed hX (by decide) 2 rfl hK0 (As := []) rfl rfl (Nat.le_of_ble_eq_true rfl) (e_X2_startConfirmed hK0 he12) dX2_start_46 ?_
      obtain ⟨hr, hs⟩ := Prod.mk.inj (z_some h)
      subst hr
      subst hs
      exact v_ireturn o dX2_start_49
  · replace h := z_ip c4 h
    refine v_aload_n o dX2_start_15 rfl 0 rfl ?_
    obtain ⟨p15, he14, h⟩ := z_bind h
    refine v_callV o yw_X2_startTrial ln_4_209 wi_X2_startTrial ws_X2_startTrial hX (by decide) 2 rfl hK0 (As := []) rfl rfl (Nat.le_of_ble_eq_true rfl) (e_X2_startTrial hK0 he14) dX2_start_16 ?_
    obtain ⟨hr, hs⟩ := Prod.mk.inj (z_some h)
    subst hr
    subst hs
    exact v_ireturn o dX2_start_19
theorem e_X2_start {q : z_Q} {l : Launch} {G : z_G} {D : z_D} {a0 : Nat} {r : Int32} {D1 : z_D} (hK0 : z_K G a0 = 102) (h : f_X2_start G D a0 = some (r, D1)) : z_E q l yX2_start cX2_start 1 (some .int) 5 0 0 [.ref (z_w q a0)] G D (some (.int r)) G D1 :=
  z_E.of (by decide) (Nat.le_of_ble_eq_true rfl) (fun X hX _ o => b_X2_start o hX hK0 h)
def f_X2_confirm (G : z_G) (D : z_D) (a0 : Nat) : Option (Int32 × z_D) :=
  z_gK G 108 (z_R G 201 a0) ((f_X8_confirmStaged G D (z_R G 201 a0)).bind (fun D3 => ((f_X8_store G D3 (z_R G 201 a0)).bind (fun D5 => ((some ((z_I (z_sI D5 203 a0 (0 : Int32)) 202 a0), (z_sI D5 203 a0 (0 : Int32)))))))))
set_option maxRecDepth 100000 in
set_option maxHeartbeats 4000000 in
theorem b_X2_confirm {q : z_Q} {X : z_X} {G : z_G} {D : z_D} {a0 : Nat} {r : Int32} {D1 : z_D} (o : z_O q X cX2_confirm 1 "FlashTrust$Loader" "confirm" (some .int)) (hX : x_R X = z_rm 4 0 0) (hK0 : z_K G a0 = 102) (h : f_X2_confirm G D a0 = some (r, D1)) : z_V q X 1 (z_F q X (some (.int r)) G D1 0 0) 0 0 G D 0 [(0, .ref (z_w q a0))] [] := by
  unfold f_X2_confirm at h
  refine v_aload_n o dX2_confirm_0 rfl 0 rfl ?_
  obtain ⟨n1, h⟩ := z_gK_of h
  refine gt_2_1 o hK0 ln_2_208 (by rw [n1]; decide) dX2_confirm_1 ?_
  obtain ⟨D3, he2, h⟩ := z_bind h
  refine v_callV o yw_X8_confirmStaged ln_4_230 wi_X8_confirmStaged ws_X8_confirmStaged hX (by decide) 8 rfl n1 (As := []) rfl rfl (Nat.le_of_ble_eq_true rfl) (e_X8_confirmStaged n1 he2) dX2_confirm_4 ?_
  refine v_aload_n o dX2_confirm_7 rfl 0 rfl ?_
  refine gt_2_1 o hK0 ln_2_208 (by rw [n1]; decide) dX2_confirm_8 ?_
  obtain ⟨D5, he4, h⟩ := z_bind h
  refine v_callV o yw_X8_store ln_4_213 wi_X8_store ws_X8_store hX (by decide) 8 rfl n1 (As := []) rfl rfl (Nat.le_of_ble_eq_true rfl) (e_X8_store n1 he4) dX2_confirm_11 ?_
  refine v_aload_n o dX2_confirm_14 rfl 0 rfl ?_
  refine v_iconst o (0 : Int32) dX2_confirm_15 (by decide) ?_
  refine pt_2_3 o hK0 ln_2_211 (by decide) dX2_confirm_16 ?_
  refine v_aload_n o dX2_confirm_19 rfl 0 rfl ?_
  refine gt_2_2 o hK0 ln_2_209 dX2_confirm_20 ?_
  obtain ⟨hr, hs⟩ := Prod.mk.inj (z_some h)
  subst hr
  subst hs
  exact v_ireturn o dX2_confirm_23
theorem e_X2_confirm {q : z_Q} {l : Launch} {G : z_G} {D : z_D} {a0 : Nat} {r : Int32} {D1 : z_D} (hK0 : z_K G a0 = 102) (h : f_X2_confirm G D a0 = some (r, D1)) : z_E q l yX2_confirm cX2_confirm 1 (some .int) 4 0 0 [.ref (z_w q a0)] G D (some (.int r)) G D1 :=
  z_E.of (by decide) (Nat.le_of_ble_eq_true rfl) (fun X hX _ o => b_X2_confirm o hX hK0 h)
def f_X2_reject (G : z_G) (D : z_D) (a0 : Nat) : Option (Int32 × z_D) :=
  z_gK G 108 (z_R G 201 a0) ((f_X8_stageNothing G D (z_R G 201 a0)).bind (fun D3 => ((f_X8_store G D3 (z_R G 201 a0)).bind (fun D5 => ((f_X2_halt G D5 a0).bind (fun D7 => ((some ((z_I D7 202 a0), D7)))))))))
set_option maxRecDepth 100000 in
set_option maxHeartbeats 4000000 in
theorem b_X2_reject {q : z_Q} {X : z_X} {G : z_G} {D : z_D} {a0 : Nat} {r : Int32} {D1 : z_D} (o : z_O q X cX2_reject 1 "FlashTrust$Loader" "reject" (some .int)) (hX : x_R X = z_rm 4 0 0) (hK0 : z_K G a0 = 102) (h : f_X2_reject G D a0 = some (r, D1)) : z_V q X 1 (z_F q X (some (.int r)) G D1 0 0) 0 0 G D 0 [(0, .ref (z_w q a0))] [] := by
  unfold f_X2_reject at h
  refine v_aload_n o dX2_reject_0 rfl 0 rfl ?_
  obtain ⟨n1, h⟩ := z_gK_of h
  refine gt_2_1 o hK0 ln_2_208 (by rw [n1]; decide) dX2_reject_1 ?_
  obtain ⟨D3, he2, h⟩ := z_bind h
  refine v_callV o yw_X8_stageNothing ln_4_217 wi_X8_stageNothing ws_X8_stageNothing hX (by decide) 8 rfl n1 (As := []) rfl rfl (Nat.le_of_ble_eq_true rfl) (e_X8_stageNothing n1 he2) dX2_reject_4 ?_
  refine v_aload_n o dX2_reject_7 rfl 0 rfl ?_
  refine gt_2_1 o hK0 ln_2_208 (by rw [n1]; decide) dX2_reject_8 ?_
  obtain ⟨D5, he4, h⟩ := z_bind h
  refine v_callV o yw_X8_store ln_4_213 wi_X8_store ws_X8_store hX (by decide) 8 rfl n1 (As := []) rfl rfl (Nat.le_of_ble_eq_true rfl) (e_X8_store n1 he4) dX2_reject_11 ?_
  refine v_aload_n o dX2_reject_14 rfl 0 rfl ?_
  obtain ⟨D7, he6, h⟩ := z_bind h
  refine v_callV o yw_X2_halt ln_4_208 wi_X2_halt ws_X2_halt hX (by decide) 2 rfl hK0 (As := []) rfl rfl (Nat.le_of_ble_eq_true rfl) (e_X2_halt hK0 he6) dX2_reject_15 ?_
  refine v_aload_n o dX2_reject_18 rfl 0 rfl ?_
  refine gt_2_2 o hK0 ln_2_209 dX2_reject_19 ?_
  obtain ⟨hr, hs⟩ := Prod.mk.inj (z_some h)
  subst hr
  subst hs
  exact v_ireturn o dX2_reject_22
theorem e_X2_reject {q : z_Q} {l : Launch} {G : z_G} {D : z_D} {a0 : Nat} {r : Int32} {D1 : z_D} (hK0 : z_K G a0 = 102) (h : f_X2_reject G D a0 = some (r, D1)) : z_E q l yX2_reject cX2_reject 1 (some .int) 4 0 0 [.ref (z_w q a0)] G D (some (.int r)) G D1 :=
  z_E.of (by decide) (Nat.le_of_ble_eq_true rfl) (fun X hX _ o => b_X2_reject o hX hK0 h)
def f_X9_goesOn (G : z_G) (D : z_D) (a0 : Nat) : Option (Int32) :=
  (if (z_I D 906 a0) = (0 : Int32) then ((some (0 : Int32))) else (((some (1 : Int32)))))
set_option maxRecDepth 100000 in
set_option maxHeartbeats 4000000 in
theorem b_X9_goesOn {q : z_Q} {X : z_X} {G : z_G} {D : z_D} {a0 : Nat} {r : Int32} (o : z_O q X cX9_goesOn 1 "FlashTrust$Update" "goesOn" (some .boolean)) (hX : x_R X = z_rm 0 0 0) (hK0 : z_K G a0 = 109) (h : f_X9_goesOn G D a0 = some r) : z_V q X 1 (z_F q X (some (.int r)) G D 0 0) 0 0 G D 0 [(0, .ref (z_w q a0))] [] := by
  unfold f_X9_goesOn at h
  refine v_aload_n o dX9_goesOn_0 rfl 0 rfl ?_
  refine gt_9_6 o hK0 ln_2_238 dX9_goesOn_1 ?_
  refine v_if_eq o 11 dX9_goesOn_4 (by decide) (fun c1 => ?_) (fun c1 => ?_)
  · replace h := z_ip c1 h
    refine v_iconst o (0 : Int32) dX9_goesOn_11 (by decide) ?_
    have hr := z_some h
    subst hr
    exact v_zreturn o (by decide) dX9_goesOn_12
  · replace h := z_in c1 h
    refine v_iconst o (1 : Int32) dX9_goesOn_7 (by decide) ?_
    refine v_goto o 12 dX9_goesOn_8 (by decide) ?_
    have hr := z_some h
    subst hr
    exact v_zreturn o (by decide) dX9_goesOn_12
theorem e_X9_goesOn {q : z_Q} {l : Launch} {G : z_G} {D : z_D} {a0 : Nat} {r : Int32} (hK0 : z_K G a0 = 109) (h : f_X9_goesOn G D a0 = some r) : z_E q l yX9_goesOn cX9_goesOn 1 (some .boolean) 0 0 0 [.ref (z_w q a0)] G D (some (.int r)) G D :=
  z_E.of (by decide) (Nat.le_of_ble_eq_true rfl) (fun X hX _ o => b_X9_goesOn o hX hK0 h)
def f_X9_start (G : z_G) (D : z_D) (a0 : Nat) (a1 : Int32) : Option (Int32 × z_D) :=
  (some ((z_I (z_sI (z_sI (z_sI D 909 a0 (0 : Int32)) 908 a0 a1) 906 a0 (1 : Int32)) 906 a0), (z_sI (z_sI (z_sI D 909 a0 (0 : Int32)) 908 a0 a1) 906 a0 (1 : Int32))))
set_option maxRecDepth 100000 in
set_option maxHeartbeats 4000000 in
theorem b_X9_start {q : z_Q} {X : z_X} {G : z_G} {D : z_D} {a0 : Nat} {a1 : Int32} {r : Int32} {D1 : z_D} (o : z_O q X cX9_start 2 "FlashTrust$Update" "start" (some .int)) (hX : x_R X = z_rm 0 0 0) (hK0 : z_K G a0 = 109) (h : f_X9_start G D a0 a1 = some (r, D1)) : z_V q X 2 (z_F q X (some (.int r)) G D1 0 0) 0 0 G D 0 [(0, .ref (z_w q a0)), (1, .int a1)] [] := by
  unfold f_X9_start at h
  refine v_aload_n o dX9_start_0 rfl 0 rfl ?_
  refine v_iconst o (0 : Int32) dX9_start_1 (by decide) ?_
  refine pt_9_9 o hK0 ln_3_4 dX9_start_2 ?_
  refine v_aload_n o dX9_start_5 rfl 0 rfl ?_
  refine v_iload_n o dX9_start_6 rfl 1 rfl ?_
  refine pt_9_8 o hK0 ln_3_2 dX9_start_7 ?_
  refine v_aload_n o dX9_start_10 rfl 0 rfl ?_
  refine v_iconst o (1 : Int32) dX9_start_11 (by decide) ?_
  refine pt_9_6 o hK0 ln_2_238 dX9_start_12 ?_
  refine v_aload_n o dX9_start_15 rfl 0 rfl ?_
  refine gt_9_6 o hK0 ln_2_238 dX9_start_16 ?_
  obtain ⟨hr, hs⟩ := Prod.mk.inj (z_some h)
  subst hr
  subst hs
  exact v_ireturn o dX9_start_19
theorem e_X9_start {q : z_Q} {l : Launch} {G : z_G} {D : z_D} {a0 : Nat} {a1 : Int32} {r : Int32} {D1 : z_D} (hK0 : z_K G a0 = 109) (h : f_X9_start G D a0 a1 = some (r, D1)) : z_E q l yX9_start cX9_start 2 (some .int) 0 0 0 [.ref (z_w q a0), .int a1] G D (some (.int r)) G D1 :=
  z_E.of (by decide) (Nat.le_of_ble_eq_true rfl) (fun X hX _ o => b_X9_start o hX hK0 h)
def f_X9_giveUp (G : z_G) (D : z_D) (a0 : Nat) : Option (z_D) :=
  (some (z_sI (z_sI (z_sI D 906 a0 (0 : Int32)) 907 a0 (0 : Int32)) 908 a0 (0 : Int32)))
set_option maxRecDepth 100000 in
set_option maxHeartbeats 4000000 in
theorem b_X9_giveUp {q : z_Q} {X : z_X} {G : z_G} {D : z_D} {a0 : Nat}  {D1 : z_D} (o : z_O q X cX9_giveUp 1 "FlashTrust$Update" "giveUp" none) (hX : x_R X = z_rm 0 0 0) (hK0 : z_K G a0 = 109) (h : f_X9_giveUp G D a0 = some D1) : z_V q X 1 (z_F q X none G D1 0 0) 0 0 G D 0 [(0, .ref (z_w q a0))] [] := by
  unfold f_X9_giveUp at h
  refine v_aload_n o dX9_giveUp_0 rfl 0 rfl ?_
  refine v_iconst o (0 : Int32) dX9_giveUp_1 (by decide) ?_
  refine pt_9_6 o hK0 ln_2_238 dX9_giveUp_2 ?_
  refine v_aload_n o dX9_giveUp_5 rfl 0 rfl ?_
  refine v_iconst o (0 : Int32) dX9_giveUp_6 (by decide) ?_
  refine pt_9_7 o hK0 ln_3_0 dX9_giveUp_7 ?_
  refine v_aload_n o dX9_giveUp_10 rfl 0 rfl ?_
  refine v_iconst o (0 : Int32) dX9_giveUp_11 (by decide) ?_
  refine pt_9_8 o hK0 ln_3_2 dX9_giveUp_12 ?_
  have hr := z_some h
  subst hr
  exact v_return o dX9_giveUp_15
theorem e_X9_giveUp {q : z_Q} {l : Launch} {G : z_G} {D : z_D} {a0 : Nat}  {D1 : z_D} (hK0 : z_K G a0 = 109) (h : f_X9_giveUp G D a0 = some D1) : z_E q l yX9_giveUp cX9_giveUp 1 none 0 0 0 [.ref (z_w q a0)] G D none G D1 :=
  z_E.of (by decide) (Nat.le_of_ble_eq_true rfl) (fun X hX _ o => b_X9_giveUp o hX hK0 h)
def f_X9_fail (G : z_G) (D : z_D) (a0 : Nat) (a1 : Int32) : Option (Int32 × z_D) :=
  (f_X9_giveUp G D a0).bind (fun D2 => ((some (((-10 : Int32) - a1), (z_sI D2 909 a0 a1)))))
set_option maxRecDepth 100000 in
set_option maxHeartbeats 4000000 in
theorem b_X9_fail {q : z_Q} {X : z_X} {G : z_G} {D : z_D} {a0 : Nat} {a1 : Int32} {r : Int32} {D1 : z_D} (o : z_O q X cX9_fail 2 "FlashTrust$Update" "fail" (some .int)) (hX : x_R X = z_rm 1 0 0) (hK0 : z_K G a0 = 109) (h : f_X9_fail G D a0 a1 = some (r, D1)) : z_V q X 2 (z_F q X (some (.int r)) G D1 0 0) 0 0 G D 0 [(0, .ref (z_w q a0)), (1, .int a1)] [] := by
  unfold f_X9_fail at h
  refine v_aload_n o dX9_fail_0 rfl 0 rfl ?_
  obtain ⟨D2, he1, h⟩ := z_bind h
  refine v_callV o yw_X9_giveUp ln_4_28 wi_X9_giveUp ws_X9_giveUp hX (by decide) 9 rfl hK0 (As := []) rfl rfl (Nat.le_of_ble_eq_true rfl) (e_X9_giveUp hK0 he1) dX9_fail_1 ?_
  refine v_aload_n o dX9_fail_4 rfl 0 rfl ?_
  refine v_iload_n o dX9_fail_5 rfl 1 rfl ?_
  refine pt_9_9 o hK0 ln_3_4 dX9_fail_6 ?_
  refine v_bipush o (-10 : Int32) dX9_fail_9 (by decide) ?_
  refine v_iload_n o dX9_fail_11 rfl 1 rfl ?_
  refine v_isub o dX9_fail_12 ?_
  obtain ⟨hr, hs⟩ := Prod.mk.inj (z_some h)
  subst hr
  subst hs
  exact v_ireturn o dX9_fail_13
theorem e_X9_fail {q : z_Q} {l : Launch} {G : z_G} {D : z_D} {a0 : Nat} {a1 : Int32} {r : Int32} {D1 : z_D} (hK0 : z_K G a0 = 109) (h : f_X9_fail G D a0 a1 = some (r, D1)) : z_E q l yX9_fail cX9_fail 2 (some .int) 1 0 0 [.ref (z_w q a0), .int a1] G D (some (.int r)) G D1 :=
  z_E.of (by decide) (Nat.le_of_ble_eq_true rfl) (fun X hX _ o => b_X9_fail o hX hK0 h)
def f_X9_trustedPaper (G : z_G) (D : z_D) (a0 : Nat) (a1 : Int32) : Option (Nat) :=
  z_gK G 3 (z_R G 901 a0) (z_gA G 3 (z_R G 901 a0) a1 (z_gK G 106 (z_A G (z_R G 901 a0) (a1).toNatClampNeg) ((f_X6_paper G D (z_A G (z_R G 901 a0) (a1).toNatClampNeg)).bind (fun r6 => ((some r6))))))
set_option maxRecDepth 100000 in
set_option maxHeartbeats 4000000 in
theorem b_X9_trustedPaper {q : z_Q} {X : z_X} {G : z_G} {D : z_D} {a0 : Nat} {a1 : Int32} {r : Nat} (o : z_O q X cX9_trustedPaper 2 "FlashTrust$Update" "trustedPaper" (some (.object "FlashTrust$Paper"))) (hX : x_R X = z_rm 3 0 0) (hK0 : z_K G a0 = 109) (h : f_X9_trustedPaper G D a0 a1 = some r) : z_V q X 2 (z_F q X (some (.ref (z_w q r))) G D 0 0) 0 0 G D 0 [(0, .ref (z_w q a0)), (1, .int a1)] [] := by
  unfold f_X9_trustedPaper at h
  refine v_aload_n o dX9_trustedPaper_0 rfl 0 rfl ?_
  obtain ⟨n1, h⟩ := z_gK_of h
  refine gt_9_1 o hK0 ln_2_233 (by rw [n1]; decide) dX9_trustedPaper_1 ?_
  refine v_iload_n o dX9_trustedPaper_4 rfl 1 rfl ?_
  obtain ⟨n2, n3, h⟩ := z_gA_of h
  obtain ⟨n4, h⟩ := z_gK_of h
  refine v_aaldK o n2 n3 (by rw [n4]; decide) dX9_trustedPaper_5 ?_
  obtain ⟨r6, he5, h⟩ := z_bind h
  refine v_callV o yw_X6_paper ln_3_212 wi_X6_paper ws_X6_paper hX (by decide) 6 rfl n4 (As := []) rfl rfl (Nat.le_of_ble_eq_true rfl) (e_X6_paper n4 he5) dX9_trustedPaper_6 ?_
  have hr := z_some h
  subst hr
  exact v_areturn o dX9_trustedPaper_9
theorem e_X9_trustedPaper {q : z_Q} {l : Launch} {G : z_G} {D : z_D} {a0 : Nat} {a1 : Int32} {r : Nat} (hK0 : z_K G a0 = 109) (h : f_X9_trustedPaper G D a0 a1 = some r) : z_E q l yX9_trustedPaper cX9_trustedPaper 2 (some (.object "FlashTrust$Paper")) 3 0 0 [.ref (z_w q a0), .int a1] G D (some (.ref (z_w q r))) G D :=
  z_E.of (by decide) (Nat.le_of_ble_eq_true rfl) (fun X hX _ o => b_X9_trustedPaper o hX hK0 h)
def f_X9_wantedVersion (G : z_G) (D : z_D) (a0 : Nat) : Option (Int32) :=
  (if (z_I D 906 a0) = (1 : Int32) then ((f_X9_trustedPaper G D a0 (0 : Int32)).bind (fun r3 => (z_gK G 104 r3 ((some ((z_I D 402 r3) + (1 : Int32))))))) else (if (z_I D 906 a0) = (2 : Int32) then ((some (0 : Int32))) else (if (z_I D 906 a0) = (3 : Int32) then ((f_X9_trustedPaper G D a0 (1 : Int32)).bind (fun r8 => (z_gK G 104 r8 ((some (z_I D 409 r8)))))) else (if (z_I D 906 a0) = (4 : Int32) then ((f_X9_trustedPaper G D a0 (2 : Int32)).bind (fun r12 => (z_gK G 104 r12 ((some (z_I D 409 r12)))))) else (if (z_I D 906 a0) = (5 : Int32) then (z_gK G 108 (z_R G 902 a0) ((some (z_I D 811 (z_R G 902 a0))))) else ((some (0 : Int32))))))))
set_option maxRecDepth 100000 in
set_option maxHeartbeats 4000000 in
theorem b_X9_wantedVersion {q : z_Q} {X : z_X} {G : z_G} {D : z_D} {a0 : Nat} {r : Int32} (o : z_O q X cX9_wantedVersion 1 "FlashTrust$Update" "wantedVersion" (some .int)) (hX : x_R X = z_rm 4 0 0) (hK0 : z_K G a0 = 109) (h : f_X9_wantedVersion G D a0 = some r) : z_V q X 1 (z_F q X (some (.int r)) G D 0 0) 0 0 G D 0 [(0, .ref (z_w q a0))] [] := by
  unfold f_X9_wantedVersion at h
  refine v_aload_n o dX9_wantedVersion_0 rfl 0 rfl ?_
  refine gt_9_6 o hK0 ln_2_238 dX9_wantedVersion_1 ?_
  by_cases c1 : (z_I D 906 a0) = (1 : Int32)
  · replace h := z_ip c1 h
    refine v_tabAt o (1 : Int32) 40 dX9_wantedVersion_4 c1 (by decide) (by decide) rfl (by decide) ?_
    refine v_aload_n o dX9_wantedVersion_40 rfl 0 rfl ?_
    refine v_iconst o (0 : Int32) dX9_wantedVersion_41 (by decide) ?_
    obtain ⟨r3, he2, h⟩ := z_bind h
    refine v_callV o yw_X9_trustedPaper ln_3_208 wi_X9_trustedPaper ws_X9_trustedPaper hX (by decide) 9 rfl hK0 (As := [.int (0 : Int32)]) rfl rfl (Nat.le_of_ble_eq_true rfl) (e_X9_trustedPaper hK0 he2) dX9_wantedVersion_42 ?_
    obtain ⟨n4, h⟩ := z_gK_of h
    refine gt_4_2 o n4 ln_1_188 dX9_wantedVersion_45 ?_
    refine v_iconst o (1 : Int32) dX9_wantedVersion_48 (by decide) ?_
    refine v_iadd o dX9_wantedVersion_49 ?_
    have hr := z_some h
    subst hr
    exact v_ireturn o dX9_wantedVersion_50
  · replace h := z_in c1 h
    by_cases c5 : (z_I D 906 a0) = (2 : Int32)
    · replace h := z_ip c5 h
      refine v_tabAt o (2 : Int32) 77 dX9_wantedVersion_4 c5 (by decide) (by decide) rfl (by decide) ?_
      refine v_iconst o (0 : Int32) dX9_wantedVersion_77 (by decide) ?_
      have hr := z_some h
      subst hr
      exact v_ireturn o dX9_wantedVersion_78
    · replace h := z_in c5 h
      by_cases c6 : (z_I D 906 a0) = (3 : Int32)
      · replace h := z_ip c6 h
        refine v_tabAt o (3 : Int32) 51 dX9_wantedVersion_4 c6 (by decide) (by decide) rfl (by decide) ?_
        refine v_aload_n o dX9_wantedVersion_51 rfl 0 rfl ?_
        refine v_iconst o (1 : Int32) dX9_wantedVersion_52 (by decide) ?_
        obtain ⟨r8, he7, h⟩ := z_bind h
        refine v_callV o yw_X9_trustedPaper ln_3_208 wi_X9_trustedPaper ws_X9_trustedPaper hX (by decide) 9 rfl hK0 (As := [.int (1 : Int32)]) rfl rfl (Nat.le_of_ble_eq_true rfl) (e_X9_trustedPaper hK0 he7) dX9_wantedVersion_53 ?_
        obtain ⟨n9, h⟩ := z_gK_of h
        refine gt_4_9 o n9 ln_1_201 dX9_wantedVersion_56 ?_
        have hr := z_some h
        subst hr
        exact v_ireturn o dX9_wantedVersion_59
      · replace h := z_in c6 h
        by_cases c10 : (z_I D 906 a0) = (4 : Int32)
        · replace h := z_ip c10 h
          refine v_tabAt o (4 : Int32) 60 dX9_wantedVersion_4 c10 (by decide) (by decide) rfl (by decide) ?_
          refine v_aload_n o dX9_wantedVersion_60 rfl 0 rfl ?_
          refine v_iconst o (2 : Int32) dX9_wantedVersion_61 (by decide) ?_
          obtain ⟨r12, he11, h⟩ := z_bind h
          refine v_callV o yw_X9_trustedPaper ln_3_208 wi_X9_trustedPaper ws_X9_trustedPaper hX (by decide) 9 rfl hK0 (As := [.int (2 : Int32)]) rfl rfl (Nat.le_of_ble_eq_true rfl) (e_X9_trustedPaper hK0 he11) dX9_wantedVersion_62 ?_
          obtain ⟨n13, h⟩ := z_gK_of h
          refine gt_4_9 o n13 ln_1_201 dX9_wantedVersion_65 ?_
          have hr := z_some h
          subst hr
          exact v_ireturn o dX9_wantedVersion_68
        · replace h := z_in c10 h
          by_cases c14 : (z_I D 906 a0) = (5 : Int32)
          · replace h := z_ip c14 h
            refine v_tabAt o (5 : Int32) 69 dX9_wantedVersion_4 c14 (by decide) (by decide) rfl (by decide) ?_
            refine v_aload_n o dX9_wantedVersion_69 rfl 0 rfl ?_
            obtain ⟨n15, h⟩ := z_gK_of h
            refine gt_9_2 o hK0 ln_2_234 (by rw [n15]; decide) dX9_wantedVersion_70 ?_
            refine gt_8_11 o n15 ln_2_104 dX9_wantedVersion_73 ?_
            have hr := z_some h
            subst hr
            exact v_ireturn o dX9_wantedVersion_76
          · replace h := z_in c14 h
            refine v_tabOut o 77 dX9_wantedVersion_4 ?_ (by decide) ?_
            · by_cases hl : ((z_I D 906 a0)).toInt < 1
              · exact Or.inl hl
              · by_cases hu : 5 < ((z_I D 906 a0)).toInt
                · exact Or.inr hu
                · exfalso
                  have hh : ((z_I D 906 a0)).toInt = 1 ∨ ((z_I D 906 a0)).toInt = 2 ∨ ((z_I D 906 a0)).toInt = 3 ∨ ((z_I D 906 a0)).toInt = 4 ∨ ((z_I D 906 a0)).toInt = 5 := by omega
                  rcases hh with hh | hh | hh | hh | hh
                  · exact c1 (z_i32 hh (by decide))
                  · exact c5 (z_i32 hh (by decide))
                  · exact c6 (z_i32 hh (by decide))
                  · exact c10 (z_i32 hh (by decide))
                  · exact c14 (z_i32 hh (by decide))
            · refine v_iconst o (0 : Int32) dX9_wantedVersion_77 (by decide) ?_
              have hr := z_some h
              subst hr
              exact v_ireturn o dX9_wantedVersion_78
theorem e_X9_wantedVersion {q : z_Q} {l : Launch} {G : z_G} {D : z_D} {a0 : Nat} {r : Int32} (hK0 : z_K G a0 = 109) (h : f_X9_wantedVersion G D a0 = some r) : z_E q l yX9_wantedVersion cX9_wantedVersion 1 (some .int) 4 0 0 [.ref (z_w q a0)] G D (some (.int r)) G D :=
  z_E.of (by decide) (Nat.le_of_ble_eq_true rfl) (fun X hX _ o => b_X9_wantedVersion o hX hK0 h)
def f_X9_takeRefusal (G : z_G) (D : z_D) (a0 : Nat) : Option (Int32 × z_D) :=
  (if (z_I D 906 a0) = (1 : Int32) then ((f_X9_trustedPaper G D a0 (0 : Int32)).bind (fun r3 => (z_gK G 104 r3 ((if (0 : Int32) < (lg_cmp (z_J D 403 r3) (((z_I D 908 a0)).toInt64)) then ((some ((z_I (z_sI D 906 a0 (2 : Int32)) 906 a0), (z_sI D 906 a0 (2 : Int32))))) else ((f_X9_fail G D a0 (4 : Int32)).bind (fun p7 => ((some (p7.1, p7.2)))))))))) else ((f_X9_fail G D a0 (6 : Int32)).bind (fun p9 => ((some (p9.1, p9.2))))))
set_option maxRecDepth 100000 in
set_option maxHeartbeats 4000000 in
theorem b_X9_takeRefusal {q : z_Q} {X : z_X} {G : z_G} {D : z_D} {a0 : Nat} {r : Int32} {D1 : z_D} (o : z_O q X cX9_takeRefusal 1 "FlashTrust$Update" "takeRefusal" (some .int)) (hX : x_R X = z_rm 4 0 0) (hK0 : z_K G a0 = 109) (h : f_X9_takeRefusal G D a0 = some (r, D1)) : z_V q X 1 (z_F q X (some (.int r)) G D1 0 0) 0 0 G D 0 [(0, .ref (z_w q a0))] [] := by
  unfold f_X9_takeRefusal at h
  refine v_aload_n o dX9_takeRefusal_0 rfl 0 rfl ?_
  refine gt_9_6 o hK0 ln_2_238 dX9_takeRefusal_1 ?_
  refine v_iconst o (1 : Int32) dX9_takeRefusal_4 (by decide) ?_
  refine v_icmp_eq o 15 dX9_takeRefusal_5 (by decide) (fun c1 => ?_) (fun c1 => ?_)
  · replace h := z_ip c1 h
    refine v_aload_n o dX9_takeRefusal_15 rfl 0 rfl ?_
    refine v_iconst o (0 : Int32) dX9_takeRefusal_16 (by decide) ?_
    obtain ⟨r3, he2, h⟩ := z_bind h
    refine v_callV o yw_X9_trustedPaper ln_3_208 wi_X9_trustedPaper ws_X9_trustedPaper hX (by decide) 9 rfl hK0 (As := [.int (0 : Int32)]) rfl rfl (Nat.le_of_ble_eq_true rfl) (e_X9_trustedPaper hK0 he2) dX9_takeRefusal_17 ?_
    obtain ⟨n4, h⟩ := z_gK_of h
    refine gt_4_3 o n4 ln_1_190 dX9_takeRefusal_20 ?_
    refine v_aload_n o dX9_takeRefusal_23 rfl 0 rfl ?_
    refine gt_9_8 o hK0 ln_3_2 dX9_takeRefusal_24 ?_
    refine v_i2l o dX9_takeRefusal_27 ?_
    refine v_lcmp o dX9_takeRefusal_28 ?_
    refine v_if_gt o 38 dX9_takeRefusal_29 (by decide) (fun c5 => ?_) (fun c5 => ?_)
    · replace h := z_ip c5 h
      refine v_aload_n o dX9_takeRefusal_38 rfl 0 rfl ?_
      refine v_iconst o (2 : Int32) dX9_takeRefusal_39 (by decide) ?_
      refine pt_9_6 o hK0 ln_2_238 dX9_takeRefusal_40 ?_
      refine v_aload_n o dX9_takeRefusal_43 rfl 0 rfl ?_
      refine gt_9_6 o hK0 ln_2_238 dX9_takeRefusal_44 ?_
      obtain ⟨hr, hs⟩ := Prod.mk.inj (z_some h)
      subst hr
      subst hs
      exact v_ireturn o dX9_takeRefusal_47
    · replace h := z_in c5 h
      refine v_aload_n o dX9_takeRefusal_32 rfl 0 rfl ?_
      refine v_iconst o (4 : Int32) dX9_takeRefusal_33 (by decide) ?_
      obtain ⟨p7, he6, h⟩ := z_bind h
      refine v_callV o yw_X9_fail ln_4_24 wi_X9_fail ws_X9_fail hX (by decide) 9 rfl hK0 (As := [.int (4 : Int32)]) rfl rfl (Nat.le_of_ble_eq_true rfl) (e_X9_fail hK0 he6) dX9_takeRefusal_34 ?_
      obtain ⟨hr, hs⟩ := Prod.mk.inj (z_some h)
      subst hr
      subst hs
      exact v_ireturn o dX9_takeRefusal_37
  · replace h := z_in c1 h
    refine v_aload_n o dX9_takeRefusal_8 rfl 0 rfl ?_
    refine v_bipush o (6 : Int32) dX9_takeRefusal_9 (by decide) ?_
    obtain ⟨p9, he8, h⟩ := z_bind h
    refine v_callV o yw_X9_fail ln_4_24 wi_X9_fail ws_X9_fail hX (by decide) 9 rfl hK0 (As := [.int (6 : Int32)]) rfl rfl (Nat.le_of_ble_eq_true rfl) (e_X9_fail hK0 he8) dX9_takeRefusal_11 ?_
    obtain ⟨hr, hs⟩ := Prod.mk.inj (z_some h)
    subst hr
    subst hs
    exact v_ireturn o dX9_takeRefusal_14
theorem e_X9_takeRefusal {q : z_Q} {l : Launch} {G : z_G} {D : z_D} {a0 : Nat} {r : Int32} {D1 : z_D} (hK0 : z_K G a0 = 109) (h : f_X9_takeRefusal G D a0 = some (r, D1)) : z_E q l yX9_takeRefusal cX9_takeRefusal 1 (some .int) 4 0 0 [.ref (z_w q a0)] G D (some (.int r)) G D1 :=
  z_E.of (by decide) (Nat.le_of_ble_eq_true rfl) (fun X hX _ o => b_X9_takeRefusal o hX hK0 h)
def p_X9_hasRole_6 (q : z_Q) (X : z_X) (Q : State → Prop) (G : z_G) (D : z_D) (a0 : Nat) (a1 : Nat) (a2 : Nat) (a3 : Int32) : (Int32 × Int32) → Prop := (fun v => z_V q X 7 Q 0 0 G D 6 [(0, .ref (z_w q a0)), (1, .ref (z_w q a1)), (2, .ref (z_w q a2)), (3, .int a3), (4, .int v.1), (5, .int v.2)] [])
def x_X9_hasRole_6 (q : z_Q) (X : z_X) (Q : State → Prop) (G : z_G) (D : z_D) (a0 : Nat) (a1 : Nat) (a2 : Nat) (a3 : Int32) : Int32 → Prop := (fun v => z_V q X 7 Q 0 0 G D 69 [(2, .ref (z_w q a2)), (3, .int a3), (4, .int v)] [])
def k_X9_hasRole_6 (q : z_Q) (X : z_X) (Q : State → Prop) (G : z_G) (D : z_D) (a0 : Nat) (a1 : Nat) (a2 : Nat) (a3 : Int32) : (Int32 × Int32) ⊕ Int32 → Prop := Sum.elim (p_X9_hasRole_6 q X Q G D a0 a1 a2 a3) (x_X9_hasRole_6 q X Q G D a0 a1 a2 a3)
def j_X9_hasRole_L6_37 (G : z_G) (D : z_D) (a0 : Nat) (a1 : Nat) (a2 : Nat) (a3 : Int32) (a4 : Int32) (a5 : Int32) (s0 : Int32) : Option ((Int32 × Int32) ⊕ Int32) :=
  (if s0 = (0 : Int32) then ((some (.inl (a4, (a5 + (1 : Int32)))))) else (z_gK G 107 (z_R G 903 a0) (z_gK G 104 a1 ((f_X7_has G D (z_R G 903 a0) a5 (z_J D 405 a1)).bind (fun r12 => ((if r12 = (0 : Int32) then ((some (.inl (a4, (a5 + (1 : Int32)))))) else ((some (.inl ((a4 + (1 : Int32)), (a5 + (1 : Int32)))))))))))))
set_option maxRecDepth 100000 in
set_option maxHeartbeats 4000000 in
theorem tj_X9_hasRole_L6_37 {q : z_Q} {X : z_X} {G : z_G} {D : z_D} {Q : State → Prop}  {a0 : Nat} {a1 : Nat} {a2 : Nat} {a3 : Int32} {a4 : Int32} {a5 : Int32} {s0 : Int32} (o : z_O q X cX9_hasRole 7 "FlashTrust$Update" "hasRole" (some .boolean)) (hX : x_R X = z_rm 1 0 0) (hK0 : z_K G a0 = 109) {ρ : (Int32 × Int32) ⊕ Int32} (h : j_X9_hasRole_L6_37 G D a0 a1 a2 a3 a4 a5 s0 = some ρ) (hk : k_X9_hasRole_6 q X Q G D a0 a1 a2 a3 ρ) : z_V q X 7 Q 0 0 G D 37 [(0, .ref (z_w q a0)), (1, .ref (z_w q a1)), (2, .ref (z_w q a2)), (3, .int a3), (4, .int a4), (5, .int a5)] [.int s0] := by
  unfold j_X9_hasRole_L6_37 at h
  refine v_istore o [(6, .int s0), (0, .ref (z_w q a0)), (1, .ref (z_w q a1)), (2, .ref (z_w q a2)), (3, .int a3), (4, .int a4), (5, .int a5)] dX9_hasRole_37 (by decide) rfl ?_
  refine v_iload o dX9_hasRole_39 0 rfl ?_
  refine v_if_eq o 63 dX9_hasRole_41 (by decide) (fun c8 => ?_) (fun c8 => ?_)
  · replace h := z_ip c8 h
    refine v_iinc o (a5 + (1 : Int32)) [(5, .int (a5 + (1 : Int32))), (6, .int s0), (0, .ref (z_w q a0)), (1, .ref (z_w q a1)), (2, .ref (z_w q a2)), (3, .int a3), (4, .int a4)] dX9_hasRole_63 6 rfl rfl (by decide) rfl ?_
    refine v_goto o 6 dX9_hasRole_66 (by decide) ?_
    obtain rfl := z_some h
    refine v_sub [2, 3, 4, 5, 6, 0] rfl ?_
    exact hk
  · replace h := z_in c8 h
    refine v_aload_n o dX9_hasRole_44 rfl 1 rfl ?_
    obtain ⟨n9, h⟩ := z_gK_of h
    refine gt_9_3 o hK0 ln_2_235 (by rw [n9]; decide) dX9_hasRole_45 ?_
    refine v_iload o dX9_hasRole_48 6 rfl ?_
    refine v_aload_n o dX9_hasRole_50 rfl 2 rfl ?_
    obtain ⟨n10, h⟩ := z_gK_of h
    refine gt_4_5 o n10 ln_1_194 dX9_hasRole_51 ?_
    obtain ⟨r12, he11, h⟩ := z_bind h
    refine v_callV o yw_X7_has ln_4_36 wi_X7_has ws_X7_has hX (by decide) 7 rfl n9 (As := [.int a5, .long (z_J D 405 a1)]) rfl rfl (Nat.le_of_ble_eq_true rfl) (e_X7_has n9 he11) dX9_hasRole_54 ?_
    refine v_if_eq o 63 dX9_hasRole_57 (by decide) (fun c13 => ?_) (fun c13 => ?_)
    · replace h := z_ip c13 h
      refine v_iinc o (a5 + (1 : Int32)) [(5, .int (a5 + (1 : Int32))), (6, .int s0), (0, .ref (z_w q a0)), (1, .ref (z_w q a1)), (2, .ref (z_w q a2)), (3, .int a3), (4, .int a4)] dX9_hasRole_63 6 rfl rfl (by decide) rfl ?_
      refine v_goto o 6 dX9_hasRole_66 (by decide) ?_
      obtain rfl := z_some h
      refine v_sub [2, 3, 4, 5, 6, 0] rfl ?_
      exact hk
    · replace h := z_in c13 h
      refine v_iinc o (a4 + (1 : Int32)) [(4, .int (a4 + (1 : Int32))), (6, .int s0), (0, .ref (z_w q a0)), (1, .ref (z_w q a1)), (2, .ref (z_w q a2)), (3, .int a3), (5, .int a5)] dX9_hasRole_60 5 rfl rfl (by decide) rfl ?_
      refine v_iinc o (a5 + (1 : Int32)) [(5, .int (a5 + (1 : Int32))), (4, .int (a4 + (1 : Int32))), (6, .int s0), (0, .ref (z_w q a0)), (1, .ref (z_w q a1)), (2, .ref (z_w q a2)), (3, .int a3)] dX9_hasRole_63 6 rfl rfl (by decide) rfl ?_
      refine v_goto o 6 dX9_hasRole_66 (by decide) ?_
      obtain rfl := z_some h
      refine v_sub [3, 4, 5, 6, 1, 0] rfl ?_
      exact hk
def c_X9_hasRole_6 (G : z_G) (D : z_D) (a0 : Nat) (a1 : Nat) (a2 : Nat) (a3 : Int32) (a4 : Int32) (a5 : Int32) : Option ((Int32 × Int32) ⊕ Int32) :=
  (if (16 : Int32) ≤ a5 then (some (.inr a4)) else (z_gK G 104 a1 (z_gK G 104 a2 (z_gK G 1 (z_R G 407 a2) (z_gA G 1 (z_R G 407 a2) a3 ((if (((z_I D 404 a1) &&& (z_U D (z_R G 407 a2) (a3).toNatClampNeg)) &&& ((1 : Int32) <<< (a5 &&& 31))) = (0 : Int32) then ((j_X9_hasRole_L6_37 G D  a0 a1 a2 a3 a4 a5 (0 : Int32))) else ((j_X9_hasRole_L6_37 G D  a0 a1 a2 a3 a4 a5 (1 : Int32))))))))))
set_option maxRecDepth 100000 in
set_option maxHeartbeats 4000000 in
theorem tc_X9_hasRole_6 {q : z_Q} {X : z_X} {G : z_G} {D : z_D} {Q : State → Prop} {a0 : Nat} {a1 : Nat} {a2 : Nat} {a3 : Int32} {a4 : Int32} {a5 : Int32} (o : z_O q X cX9_hasRole 7 "FlashTrust$Update" "hasRole" (some .boolean)) (hX : x_R X = z_rm 1 0 0) (hK0 : z_K G a0 = 109) {ρ : (Int32 × Int32) ⊕ Int32} (h : c_X9_hasRole_6 G D a0 a1 a2 a3 a4 a5 = some ρ) (hk : k_X9_hasRole_6 q X Q G D a0 a1 a2 a3 ρ) : z_V q X 7 Q 0 0 G D 6 [(0, .ref (z_w q a0)), (1, .ref (z_w q a1)), (2, .ref (z_w q a2)), (3, .int a3), (4, .int a4), (5, .int a5)] [] := by
  unfold c_X9_hasRole_6 at h
  refine v_iload o dX9_hasRole_6 5 rfl ?_
  refine v_bipush o (16 : Int32) dX9_hasRole_8 (by decide) ?_
  refine v_icmp_ge o 69 dX9_hasRole_10 (by decide) (fun c1 => ?_) (fun c1 => ?_)
  · replace h := z_ip c1 h
    obtain rfl := z_some h
    refine v_sub [2, 3, 4] rfl ?_
    exact hk
  · replace h := z_in c1 h
    refine v_aload_n o dX9_hasRole_13 rfl 1 rfl ?_
    obtain ⟨n2, h⟩ := z_gK_of h
    refine gt_4_4 o n2 ln_1_192 dX9_hasRole_14 ?_
    refine v_aload_n o dX9_hasRole_17 rfl 2 rfl ?_
    obtain ⟨n3, h⟩ := z_gK_of h
    obtain ⟨n4, h⟩ := z_gK_of h
    refine gt_4_7 o n3 ln_1_197 (by rw [n4]; decide) dX9_hasRole_18 ?_
    refine v_iload_n o dX9_hasRole_21 rfl 3 rfl ?_
    obtain ⟨n5, n6, h⟩ := z_gA_of h
    refine v_iald o n5 n6 dX9_hasRole_22 ?_
    refine v_iand o dX9_hasRole_23 ?_
    refine v_iconst o (1 : Int32) dX9_hasRole_24 (by decide) ?_
    refine v_iload o dX9_hasRole_25 5 rfl ?_
    refine v_ishl o dX9_hasRole_27 ?_
    refine v_iand o dX9_hasRole_28 ?_
    refine v_if_eq o 36 dX9_hasRole_29 (by decide) (fun c7 => ?_) (fun c7 => ?_)
    · replace h := z_ip c7 h
      refine v_iconst o (0 : Int32) dX9_hasRole_36 (by decide) ?_
      exact tj_X9_hasRole_L6_37 o hX hK0 h hk
    · replace h := z_in c7 h
      refine v_iconst o (1 : Int32) dX9_hasRole_32 (by decide) ?_
      refine v_goto o 37 dX9_hasRole_33 (by decide) ?_
      exact tj_X9_hasRole_L6_37 o hX hK0 h hk
def f_X9_hasRole (G : z_G) (D : z_D) (a0 : Nat) (a1 : Nat) (a2 : Nat) (a3 : Int32) : Option (Int32) :=
  ((z_loop (fun v => c_X9_hasRole_6 G D a0 a1 a2 a3 v.1 v.2) 4000 ((0 : Int32), (0 : Int32))).bind (fun e14 => z_gK G 104 a2 (z_gK G 1 (z_R G 408 a2) (z_gA G 1 (z_R G 408 a2) a3 ((if e14 < (z_U D (z_R G 408 a2) (a3).toNatClampNeg) then ((some (0 : Int32))) else (((some (1 : Int32))))))))))
set_option maxRecDepth 100000 in
set_option maxHeartbeats 4000000 in
theorem b_X9_hasRole {q : z_Q} {X : z_X} {G : z_G} {D : z_D} {a0 : Nat} {a1 : Nat} {a2 : Nat} {a3 : Int32} {r : Int32} (o : z_O q X cX9_hasRole 7 "FlashTrust$Update" "hasRole" (some .boolean)) (hX : x_R X = z_rm 1 0 0) (hK0 : z_K G a0 = 109) (h : f_X9_hasRole G D a0 a1 a2 a3 = some r) : z_V q X 7 (z_F q X (some (.int r)) G D 0 0) 0 0 G D 0 [(0, .ref (z_w q a0)), (1, .ref (z_w q a1)), (2, .ref (z_w q a2)), (3, .int a3)] [] := by
  unfold f_X9_hasRole at h
  refine v_iconst o (0 : Int32) dX9_hasRole_0 (by decide) ?_
  refine v_istore o [(4, .int (0 : Int32)), (0, .ref (z_w q a0)), (1, .ref (z_w q a1)), (2, .ref (z_w q a2)), (3, .int a3)] dX9_hasRole_1 (by decide) rfl ?_
  refine v_iconst o (0 : Int32) dX9_hasRole_3 (by decide) ?_
  refine v_istore o [(5, .int (0 : Int32)), (4, .int (0 : Int32)), (0, .ref (z_w q a0)), (1, .ref (z_w q a1)), (2, .ref (z_w q a2)), (3, .int a3)] dX9_hasRole_4 (by decide) rfl ?_
  refine v_sub [2, 3, 4, 5, 1, 0] rfl ?_
  obtain ⟨e14, he15, h⟩ := z_bind h
  refine z_loopV (P := p_X9_hasRole_6 q X _ G D a0 a1 a2 a3) (E := x_X9_hasRole_6 q X _ G D a0 a1 a2 a3) (fun v ρ hb hk => tc_X9_hasRole_6 (D := D) (a0 := a0) (a1 := a1) (a2 := a2) (a3 := a3) (a4 := v.1) (a5 := v.2) o hX hK0 hb hk) 4000 _ e14 he15 ?_
  show z_V q X 7 _ _ _ G D 69 [(2, .ref (z_w q a2)), (3, .int a3), (4, .int e14)] []
  refine v_iload o dX9_hasRole_69 2 rfl ?_
  refine v_aload_n o dX9_hasRole_71 rfl 0 rfl ?_
  obtain ⟨n16, h⟩ := z_gK_of h
  obtain ⟨n17, h⟩ := z_gK_of h
  refine gt_4_8 o n16 ln_1_199 (by rw [n17]; decide) dX9_hasRole_72 ?_
  refine v_iload_n o dX9_hasRole_75 rfl 1 rfl ?_
  obtain ⟨n18, n19, h⟩ := z_gA_of h
  refine v_iald o n18 n19 dX9_hasRole_76 ?_
  refine v_icmp_lt o 84 dX9_hasRole_77 (by decide) (fun c20 => ?_) (fun c20 => ?_)
  · replace h := z_ip c20 h
    refine v_iconst o (0 : Int32) dX9_hasRole_84 (by decide) ?_
    have hr := z_some h
    subst hr
    exact v_zreturn o (by decide) dX9_hasRole_85
  · replace h := z_in c20 h
    refine v_iconst o (1 : Int32) dX9_hasRole_80 (by decide) ?_
    refine v_goto o 85 dX9_hasRole_81 (by decide) ?_
    have hr := z_some h
    subst hr
    exact v_zreturn o (by decide) dX9_hasRole_85
theorem e_X9_hasRole {q : z_Q} {l : Launch} {G : z_G} {D : z_D} {a0 : Nat} {a1 : Nat} {a2 : Nat} {a3 : Int32} {r : Int32} (hK0 : z_K G a0 = 109) (h : f_X9_hasRole G D a0 a1 a2 a3 = some r) : z_E q l yX9_hasRole cX9_hasRole 7 (some .boolean) 1 0 0 [.ref (z_w q a0), .ref (z_w q a1), .ref (z_w q a2), .int a3] G D (some (.int r)) G D :=
  z_E.of (by decide) (Nat.le_of_ble_eq_true rfl) (fun X hX _ o => b_X9_hasRole o hX hK0 h)
def p_X9_takeRoot_121 (q : z_Q) (X : z_X) (Q : State → Prop) (G : z_G) (a0 : Nat) : (z_D × Int32) → Prop := (fun v => z_V q X 4 Q 0 0 G v.1 121 [(0, .ref (z_w q a0)), (3, .int v.2)] [])
def x_X9_takeRoot_121 (q : z_Q) (X : z_X) (Q : State → Prop) (G : z_G) (a0 : Nat) : z_D → Prop := (fun v => z_V q X 4 Q 0 0 G v 157 [(0, .ref (z_w q a0))] [])
def k_X9_takeRoot_121 (q : z_Q) (X : z_X) (Q : State → Prop) (G : z_G) (a0 : Nat) : (z_D × Int32) ⊕ z_D → Prop := Sum.elim (p_X9_takeRoot_121 q X Q G a0) (x_X9_takeRoot_121 q X Q G a0)
def c_X9_takeRoot_121 (G : z_G) (D : z_D) (a0 : Nat) (a3 : Int32) : Option ((z_D × Int32) ⊕ z_D) :=
  (if (2 : Int32) < a3 then (some (.inr D)) else (z_gK G 3 (z_R G 901 a0) (z_gA G 3 (z_R G 901 a0) a3 (z_gK G 106 (z_A G (z_R G 901 a0) (a3).toNatClampNeg) ((f_X6_holds G D (z_A G (z_R G 901 a0) (a3).toNatClampNeg)).bind (fun r32 => ((if r32 = (0 : Int32) then ((some (.inl (D, (a3 + (1 : Int32)))))) else (z_gA G 3 (z_R G 901 a0) a3 (z_gK G 105 (z_R G 905 a0) ((f_X6_keep G D (z_A G (z_R G 901 a0) (a3).toNatClampNeg) (z_R G 905 a0)).bind (fun D38 => ((some (.inl (D38, (a3 + (1 : Int32))))))))))))))))))
set_option maxRecDepth 100000 in
set_option maxHeartbeats 4000000 in
theorem tc_X9_takeRoot_121 {q : z_Q} {X : z_X} {G : z_G} {D : z_D} {Q : State → Prop} {a0 : Nat} {a3 : Int32} (o : z_O q X cX9_takeRoot 4 "FlashTrust$Update" "takeRoot" (some .int)) (hX : x_R X = z_rm 5 0 0) (hK0 : z_K G a0 = 109) {ρ : (z_D × Int32) ⊕ z_D} (h : c_X9_takeRoot_121 G D a0 a3 = some ρ) (hk : k_X9_takeRoot_121 q X Q G a0 ρ) : z_V q X 4 Q 0 0 G D 121 [(0, .ref (z_w q a0)), (3, .int a3)] [] := by
  unfold c_X9_takeRoot_121 at h
  refine v_iload_n o dX9_takeRoot_121 rfl 1 rfl ?_
  refine v_iconst o (2 : Int32) dX9_takeRoot_122 (by decide) ?_
  refine v_icmp_gt o 157 dX9_takeRoot_123 (by decide) (fun c26 => ?_) (fun c26 => ?_)
  · replace h := z_ip c26 h
    obtain rfl := z_some h
    refine v_sub [0] rfl ?_
    exact hk
  · replace h := z_in c26 h
    refine v_aload_n o dX9_takeRoot_126 rfl 0 rfl ?_
    obtain ⟨n27, h⟩ := z_gK_of h
    refine gt_9_1 o hK0 ln_2_233 (by rw [n27]; decide) dX9_takeRoot_127 ?_
    refine v_iload_n o dX9_takeRoot_130 rfl 1 rfl ?_
    obtain ⟨n28, n29, h⟩ := z_gA_of h
    obtain ⟨n30, h⟩ := z_gK_of h
    refine v_aaldK o n28 n29 (by rw [n30]; decide) dX9_takeRoot_131 ?_
    obtain ⟨r32, he31, h⟩ := z_bind h
    refine v_callV o yw_X6_holds ln_4_41 wi_X6_holds ws_X6_holds hX (by decide) 6 rfl n30 (As := []) rfl rfl (Nat.le_of_ble_eq_true rfl) (e_X6_holds n30 he31) dX9_takeRoot_132 ?_
    refine v_if_eq o 151 dX9_takeRoot_135 (by decide) (fun c33 => ?_) (fun c33 => ?_)
    · replace h := z_ip c33 h
      refine v_iinc o (a3 + (1 : Int32)) [(3, .int (a3 + (1 : Int32))), (0, .ref (z_w q a0))] dX9_takeRoot_151 1 rfl rfl (by decide) rfl ?_
      refine v_goto o 121 dX9_takeRoot_154 (by decide) ?_
      obtain rfl := z_some h
      refine v_sub [1, 0] rfl ?_
      exact hk
    · replace h := z_in c33 h
      refine v_aload_n o dX9_takeRoot_138 rfl 0 rfl ?_
      refine gt_9_1 o hK0 ln_2_233 (by rw [n27]; decide) dX9_takeRoot_139 ?_
      refine v_iload_n o dX9_takeRoot_142 rfl 1 rfl ?_
      obtain ⟨n34, n35, h⟩ := z_gA_of h
      refine v_aaldK o n34 n35 (by rw [n30]; decide) dX9_takeRoot_143 ?_
      refine v_aload_n o dX9_takeRoot_144 rfl 0 rfl ?_
      obtain ⟨n36, h⟩ := z_gK_of h
      refine gt_9_5 o hK0 ln_2_237 (by rw [n36]; decide) dX9_takeRoot_145 ?_
      obtain ⟨D38, he37, h⟩ := z_bind h
      refine v_callV o yw_X6_keep ln_4_45 wi_X6_keep ws_X6_keep hX (by decide) 6 rfl n30 (As := [.ref (z_w q (z_R G 905 a0))]) rfl rfl (Nat.le_of_ble_eq_true rfl) (e_X6_keep n30 he37) dX9_takeRoot_148 ?_
      refine v_iinc o (a3 + (1 : Int32)) [(3, .int (a3 + (1 : Int32))), (0, .ref (z_w q a0))] dX9_takeRoot_151 1 rfl rfl (by decide) rfl ?_
      refine v_goto o 121 dX9_takeRoot_154 (by decide) ?_
      obtain rfl := z_some h
      refine v_sub [1, 0] rfl ?_
      exact hk
def j_X9_takeRoot_157 (G : z_G) (D : z_D) (a0 : Nat)  : Option (Int32 × z_D) :=
  z_gK G 3 (z_R G 901 a0) (z_gA G 3 (z_R G 901 a0) (0 : Int32) (z_gK G 106 (z_A G (z_R G 901 a0) ((0 : Int32)).toNatClampNeg) (z_gK G 104 (z_R G 904 a0) (z_gK G 105 (z_R G 400 (z_R G 904 a0)) ((f_X6_keep G D (z_A G (z_R G 901 a0) ((0 : Int32)).toNatClampNeg) (z_R G 400 (z_R G 904 a0))).bind (fun D48 => ((some ((z_I D48 906 a0), D48)))))))))
set_option maxRecDepth 100000 in
set_option maxHeartbeats 4000000 in
theorem tj_X9_takeRoot_157 {q : z_Q} {X : z_X} {G : z_G} {D : z_D} {a0 : Nat}  {r : Int32} {D1 : z_D} (o : z_O q X cX9_takeRoot 4 "FlashTrust$Update" "takeRoot" (some .int)) (hX : x_R X = z_rm 5 0 0) (hK0 : z_K G a0 = 109) (h : j_X9_takeRoot_157 G D a0  = some (r, D1)) : z_V q X 4 (z_F q X (some (.int r)) G D1 0 0) 0 0 G D 157 [(0, .ref (z_w q a0))] [] := by
  unfold j_X9_takeRoot_157 at h
  refine v_aload_n o dX9_takeRoot_157 rfl 0 rfl ?_
  obtain ⟨n41, h⟩ := z_gK_of h
  refine gt_9_1 o hK0 ln_2_233 (by rw [n41]; decide) dX9_takeRoot_158 ?_
  refine v_iconst o (0 : Int32) dX9_takeRoot_161 (by decide) ?_
  obtain ⟨n42, n43, h⟩ := z_gA_of h
  obtain ⟨n44, h⟩ := z_gK_of h
  refine v_aaldK o n42 n43 (by rw [n44]; decide) dX9_takeRoot_162 ?_
  refine v_aload_n o dX9_takeRoot_163 rfl 0 rfl ?_
  obtain ⟨n45, h⟩ := z_gK_of h
  refine gt_9_4 o hK0 ln_2_236 (by rw [n45]; decide) dX9_takeRoot_164 ?_
  obtain ⟨n46, h⟩ := z_gK_of h
  refine gt_4_0 o n45 ln_1_183 (by rw [n46]; decide) dX9_takeRoot_167 ?_
  obtain ⟨D48, he47, h⟩ := z_bind h
  refine v_callV o yw_X6_keep ln_4_45 wi_X6_keep ws_X6_keep hX (by decide) 6 rfl n44 (As := [.ref (z_w q (z_R G 400 (z_R G 904 a0)))]) rfl rfl (Nat.le_of_ble_eq_true rfl) (e_X6_keep n44 he47) dX9_takeRoot_170 ?_
  refine v_aload_n o dX9_takeRoot_173 rfl 0 rfl ?_
  refine gt_9_6 o hK0 ln_2_238 dX9_takeRoot_174 ?_
  obtain ⟨hr, hs⟩ := Prod.mk.inj (z_some h)
  subst hr
  subst hs
  exact v_ireturn o dX9_takeRoot_177
def j_X9_takeRoot_119 (G : z_G) (D : z_D) (a0 : Nat)  : Option (Int32 × z_D) :=
  ((z_loop (fun v => c_X9_takeRoot_121 G v.1 a0 v.2) 4000 (D, (1 : Int32))).bind (fun e39 => j_X9_takeRoot_157 G e39  a0))
set_option maxRecDepth 100000 in
set_option maxHeartbeats 4000000 in
theorem tj_X9_takeRoot_119 {q : z_Q} {X : z_X} {G : z_G} {D : z_D} {a0 : Nat}  {r : Int32} {D1 : z_D} (o : z_O q X cX9_takeRoot 4 "FlashTrust$Update" "takeRoot" (some .int)) (hX : x_R X = z_rm 5 0 0) (hK0 : z_K G a0 = 109) (h : j_X9_takeRoot_119 G D a0  = some (r, D1)) : z_V q X 4 (z_F q X (some (.int r)) G D1 0 0) 0 0 G D 119 [(0, .ref (z_w q a0))] [] := by
  unfold j_X9_takeRoot_119 at h
  refine v_iconst o (1 : Int32) dX9_takeRoot_119 (by decide) ?_
  refine v_istore_n o [(3, .int (1 : Int32)), (0, .ref (z_w q a0))] dX9_takeRoot_120 rfl (by decide) rfl ?_
  refine v_sub [1, 0] rfl ?_
  obtain ⟨e39, he40, h⟩ := z_bind h
  refine z_loopV (P := p_X9_takeRoot_121 q X _ G a0) (E := x_X9_takeRoot_121 q X _ G a0) (fun v ρ hb hk => tc_X9_takeRoot_121 (D := v.1) (a0 := a0) (a3 := v.2) o hX hK0 hb hk) 4000 _ e39 he40 ?_
  show z_V q X 4 _ _ _ G e39 157 [(0, .ref (z_w q a0))] []
  exact tj_X9_takeRoot_157 o hX hK0 h
def f_X9_takeRoot (G : z_G) (D : z_D) (a0 : Nat) (a1 : Nat) : Option (Int32 × z_D) :=
  (f_X9_trustedPaper G D a0 (0 : Int32)).bind (fun r2 => (z_gK G 104 (z_R G 904 a0) (z_gK G 105 a1 ((f_X5_size G D a1).bind (fun r6 => ((f_X4_read G D (z_R G 904 a0) a1 (0 : Int32) r6).bind (fun p8 => ((if p8.1 = (0 : Int32) then ((f_X9_fail G p8.2 a0 (1 : Int32)).bind (fun p11 => ((some (p11.1, p11.2))))) else ((if (z_I p8.2 401 (z_R G 904 a0)) = (0 : Int32) then (z_gK G 104 r2 ((if (z_I p8.2 402 (z_R G 904 a0)) = ((z_I p8.2 402 r2) + (1 : Int32)) then ((f_X9_hasRole G p8.2 a0 (z_R G 904 a0) r2 (0 : Int32)).bind (fun r16 => ((if r16 = (0 : Int32) then ((f_X9_fail G p8.2 a0 (2 : Int32)).bind (fun p19 => ((some (p19.1, p19.2))))) else ((f_X9_hasRole G p8.2 a0 (z_R G 904 a0) (z_R G 904 a0) (0 : Int32)).bind (fun r21 => ((if r21 = (0 : Int32) then ((f_X9_fail G p8.2 a0 (2 : Int32)).bind (fun p53 => ((some (p53.1, p53.2))))) else ((f_X4_givesLike G p8.2 (z_R G 904 a0) r2 (1 : Int32)).bind (fun r24 => ((if r24 = (0 : Int32) then (j_X9_takeRoot_119 G p8.2  a0) else ((f_X4_givesLike G p8.2 (z_R G 904 a0) r2 (2 : Int32)).bind (fun r50 => ((if r50 = (0 : Int32) then (j_X9_takeRoot_119 G p8.2  a0) else (j_X9_takeRoot_157 G p8.2  a0))))))))))))))))) else ((f_X9_fail G p8.2 a0 (3 : Int32)).bind (fun p55 => ((some (p55.1, p55.2)))))))) else ((f_X9_fail G p8.2 a0 (1 : Int32)).bind (fun p57 => ((some (p57.1, p57.2))))))))))))))))
set_option maxRecDepth 100000 in
set_option maxHeartbeats 4000000 in
theorem b_X9_takeRoot {q : z_Q} {X : z_X} {G : z_G} {D : z_D} {a0 : Nat} {a1 : Nat} {r : Int32} {D1 : z_D} (o : z_O q X cX9_takeRoot 4 "FlashTrust$Update" "takeRoot" (some .int)) (hX : x_R X = z_rm 5 0 0) (hK0 : z_K G a0 = 109) (h : f_X9_takeRoot G D a0 a1 = some (r, D1)) : z_V q X 4 (z_F q X (some (.int r)) G D1 0 0) 0 0 G D 0 [(0, .ref (z_w q a0)), (1, .ref (z_w q a1))] [] := by
  unfold f_X9_takeRoot at h
  refine v_aload_n o dX9_takeRoot_0 rfl 0 rfl ?_
  refine v_iconst o (0 : Int32) dX9_takeRoot_1 (by decide) ?_
  obtain ⟨r2, he1, h⟩ := z_bind h
  refine v_callV o yw_X9_trustedPaper ln_3_208 wi_X9_trustedPaper ws_X9_trustedPaper hX (by decide) 9 rfl hK0 (As := [.int (0 : Int32)]) rfl rfl (Nat.le_of_ble_eq_true rfl) (e_X9_trustedPaper hK0 he1) dX9_takeRoot_2 ?_
  refine v_astore_n o [(2, .ref (z_w q r2)), (0, .ref (z_w q a0)), (1, .ref (z_w q a1))] dX9_takeRoot_5 rfl (by decide) rfl ?_
  refine v_aload_n o dX9_takeRoot_6 rfl 1 rfl ?_
  obtain ⟨n3, h⟩ := z_gK_of h
  refine gt_9_4 o hK0 ln_2_236 (by rw [n3]; decide) dX9_takeRoot_7 ?_
  refine v_aload_n o dX9_takeRoot_10 rfl 2 rfl ?_
  refine v_iconst o (0 : Int32) dX9_takeRoot_11 (by decide) ?_
  refine v_aload_n o dX9_takeRoot_12 rfl 2 rfl ?_
  obtain ⟨n4, h⟩ := z_gK_of h
  obtain ⟨r6, he5, h⟩ := z_bind h
  refine v_callV o yw_X5_size ln_3_229 wi_X5_size ws_X5_size hX (by decide) 5 rfl n4 (As := []) rfl rfl (Nat.le_of_ble_eq_true rfl) (e_X5_size n4 he5) dX9_takeRoot_13 ?_
  obtain ⟨p8, he7, h⟩ := z_bind h
  refine v_callV o yw_X4_read ln_3_230 wi_X4_read ws_X4_read hX (by decide) 4 rfl n3 (As := [.ref (z_w q a1), .int (0 : Int32), .int r6]) rfl rfl (Nat.le_of_ble_eq_true rfl) (e_X4_read n3 he7) dX9_takeRoot_16 ?_
  refine v_if_eq o 32 dX9_takeRoot_19 (by decide) (fun c9 => ?_) (fun c9 => ?_)
  · replace h := z_ip c9 h
    refine v_aload_n o dX9_takeRoot_32 rfl 1 rfl ?_
    refine v_iconst o (1 : Int32) dX9_takeRoot_33 (by decide) ?_
    obtain ⟨p11, he10, h⟩ := z_bind h
    refine v_callV o yw_X9_fail ln_4_24 wi_X9_fail ws_X9_fail hX (by decide) 9 rfl hK0 (As := [.int (1 : Int32)]) rfl rfl (Nat.le_of_ble_eq_true rfl) (e_X9_fail hK0 he10) dX9_takeRoot_34 ?_
    obtain ⟨hr, hs⟩ := Prod.mk.inj (z_some h)
    subst hr
    subst hs
    exact v_ireturn o dX9_takeRoot_37
  · replace h := z_in c9 h
    refine v_aload_n o dX9_takeRoot_22 rfl 1 rfl ?_
    refine gt_9_4 o hK0 ln_2_236 (by rw [n3]; decide) dX9_takeRoot_23 ?_
    refine gt_4_1 o n3 ln_1_186 dX9_takeRoot_26 ?_
    refine v_if_eq o 38 dX9_takeRoot_29 (by decide) (fun c12 => ?_) (fun c12 => ?_)
    · replace h := z_ip c12 h
      refine v_aload_n o dX9_takeRoot_38 rfl 1 rfl ?_
      refine gt_9_4 o hK0 ln_2_236 (by rw [n3]; decide) dX9_takeRoot_39 ?_
      refine gt_4_2 o n3 ln_1_188 dX9_takeRoot_42 ?_
      refine v_aload_n o dX9_takeRoot_45 rfl 0 rfl ?_
      obtain ⟨n13, h⟩ := z_gK_of h
      refine gt_4_2 o n13 ln_1_188 dX9_takeRoot_46 ?_
      refine v_iconst o (1 : Int32) dX9_takeRoot_49 (by decide) ?_
      refine v_iadd o dX9_takeRoot_50 ?_
      refine v_icmp_eq o 60 dX9_takeRoot_51 (by decide) (fun c14 => ?_) (fun c14 => ?_)
      · replace h := z_ip c14 h
        refine v_aload_n o dX9_takeRoot_60 rfl 1 rfl ?_
        refine v_aload_n o dX9_takeRoot_61 rfl 1 rfl ?_
        refine gt_9_4 o hK0 ln_2_236 (by rw [n3]; decide) dX9_takeRoot_62 ?_
        refine v_aload_n o dX9_takeRoot_65 rfl 0 rfl ?_
        refine v_iconst o (0 : Int32) dX9_takeRoot_66 (by decide) ?_
        obtain ⟨r16, he15, h⟩ := z_bind h
        refine v_callV o yw_X9_hasRole ln_4_32 wi_X9_hasRole ws_X9_hasRole hX (by decide) 9 rfl hK0 (As := [.ref (z_w q (z_R G 904 a0)), .ref (z_w q r2), .int (0 : Int32)]) rfl rfl (Nat.le_of_ble_eq_true rfl) (e_X9_hasRole hK0 he15) dX9_takeRoot_67 ?_
        refine v_if_eq o 89 dX9_takeRoot_70 (by decide) (fun c17 => ?_) (fun c17 => ?_)
        · replace h := z_ip c17 h
          refine v_aload_n o dX9_takeRoot_89 rfl 1 rfl ?_
          refine v_iconst o (2 : Int32) dX9_takeRoot_90 (by decide) ?_
          obtain ⟨p19, he18, h⟩ := z_bind h
          refine v_callV o yw_X9_fail ln_4_24 wi_X9_fail ws_X9_fail hX (by decide) 9 rfl hK0 (As := [.int (2 : Int32)]) rfl rfl (Nat.le_of_ble_eq_true rfl) (e_X9_fail hK0 he18) dX9_takeRoot_91 ?_
          obtain ⟨hr, hs⟩ := Prod.mk.inj (z_some h)
          subst hr
          subst hs
          exact v_ireturn o dX9_takeRoot_94
        · replace h := z_in c17 h
          refine v_aload_n o dX9_takeRoot_73 rfl 1 rfl ?_
          refine v_aload_n o dX9_takeRoot_74 rfl 1 rfl ?_
          refine gt_9_4 o hK0 ln_2_236 (by rw [n3]; decide) dX9_takeRoot_75 ?_
          refine v_aload_n o dX9_takeRoot_78 rfl 1 rfl ?_
          refine gt_9_4 o hK0 ln_2_236 (by rw [n3]; decide) dX9_takeRoot_79 ?_
          refine v_iconst o (0 : Int32) dX9_takeRoot_82 (by decide) ?_
          obtain ⟨r21, he20, h⟩ := z_bind h
          refine v_callV o yw_X9_hasRole ln_4_32 wi_X9_hasRole ws_X9_hasRole hX (by decide) 9 rfl hK0 (As := [.ref (z_w q (z_R G 904 a0)), .ref (z_w q (z_R G 904 a0)), .int (0 : Int32)]) rfl rfl (Nat.le_of_ble_eq_true rfl) (e_X9_hasRole hK0 he20) dX9_takeRoot_83 ?_
          refine v_if_ne o 95 dX9_takeRoot_86 (by decide) (fun c22 => ?_) (fun c22 => ?_)
          · replace h := z_in c22 h
            refine v_aload_n o dX9_takeRoot_95 rfl 1 rfl ?_
            refine gt_9_4 o hK0 ln_2_236 (by rw [n3]; decide) dX9_takeRoot_96 ?_
            refine v_aload_n o dX9_takeRoot_99 rfl 0 rfl ?_
            refine v_iconst o (1 : Int32) dX9_takeRoot_100 (by decide) ?_
            obtain ⟨r24, he23, h⟩ := z_bind h
            refine v_callV o yw_X4_givesLike ln_4_37 wi_X4_givesLike ws_X4_givesLike hX (by decide) 4 rfl n3 (As := [.ref (z_w q r2), .int (1 : Int32)]) rfl rfl (Nat.le_of_ble_eq_true rfl) (e_X4_givesLike n3 he23) dX9_takeRoot_101 ?_
            refine v_if_eq o 119 dX9_takeRoot_104 (by decide) (fun c25 => ?_) (fun c25 => ?_)
            · replace h := z_ip c25 h
              refine v_sub [1] rfl ?_
              exact tj_X9_takeRoot_119 o hX hK0 h
            · replace h := z_in c25 h
              refine v_aload_n o dX9_takeRoot_107 rfl 1 rfl ?_
              refine gt_9_4 o hK0 ln_2_236 (by rw [n3]; decide) dX9_takeRoot_108 ?_
              refine v_aload_n o dX9_takeRoot_111 rfl 0 rfl ?_
              refine v_iconst o (2 : Int32) dX9_takeRoot_112 (by decide) ?_
              obtain ⟨r50, he49, h⟩ := z_bind h
              refine v_callV o yw_X4_givesLike ln_4_37 wi_X4_givesLike ws_X4_givesLike hX (by decide) 4 rfl n3 (As := [.ref (z_w q r2), .int (2 : Int32)]) rfl rfl (Nat.le_of_ble_eq_true rfl) (e_X4_givesLike n3 he49) dX9_takeRoot_113 ?_
              refine v_if_ne o 157 dX9_takeRoot_116 (by decide) (fun c51 => ?_) (fun c51 => ?_)
              · replace h := z_in c51 h
                refine v_sub [1] rfl ?_
                exact tj_X9_takeRoot_157 o hX hK0 h
              · replace h := z_ip c51 h
                refine v_sub [1] rfl ?_
                exact tj_X9_takeRoot_119 o hX hK0 h
          · replace h := z_ip c22 h
            refine v_aload_n o dX9_takeRoot_89 rfl 1 rfl ?_
            refine v_iconst o (2 : Int32) dX9_takeRoot_90 (by decide) ?_
            obtain ⟨p53, he52, h⟩ := z_bind h
            refine v_callV o yw_X9_fail ln_4_24 wi_X9_fail ws_X9_fail hX (by decide) 9 rfl hK0 (As := [.int (2 : Int32)]) rfl rfl (Nat.le_of_ble_eq_true rfl) (e_X9_fail hK0 he52) dX9_takeRoot_91 ?_
            obtain ⟨hr, hs⟩ := Prod.mk.inj (z_some h)
            subst hr
            subst hs
            exact v_ireturn o dX9_takeRoot_94
      · replace h := z_in c14 h
        refine v_aload_n o dX9_takeRoot_54 rfl 1 rfl ?_
        refine v_iconst o (3 : Int32) dX9_takeRoot_55 (by decide) ?_
        obtain ⟨p55, he54, h⟩ := z_bind h
        refine v_callV o yw_X9_fail ln_4_24 wi_X9_fail ws_X9_fail hX (by decide) 9 rfl hK0 (As := [.int (3 : Int32)]) rfl rfl (Nat.le_of_ble_eq_true rfl) (e_X9_fail hK0 he54) dX9_takeRoot_56 ?_
        obtain ⟨hr, hs⟩ := Prod.mk.inj (z_some h)
        subst hr
        subst hs
        exact v_ireturn o dX9_takeRoot_59
    · replace h := z_in c12 h
      refine v_aload_n o dX9_takeRoot_32 rfl 1 rfl ?_
      refine v_iconst o (1 : Int32) dX9_takeRoot_33 (by decide) ?_
      obtain ⟨p57, he56, h⟩ := z_bind h
      refine v_callV o yw_X9_fail ln_4_24 wi_X9_fail ws_X9_fail hX (by decide) 9 rfl hK0 (As := [.int (1 : Int32)]) rfl rfl (Nat.le_of_ble_eq_true rfl) (e_X9_fail hK0 he56) dX9_takeRoot_34 ?_
      obtain ⟨hr, hs⟩ := Prod.mk.inj (z_some h)
      subst hr
      subst hs
      exact v_ireturn o dX9_takeRoot_37
theorem e_X9_takeRoot {q : z_Q} {l : Launch} {G : z_G} {D : z_D} {a0 : Nat} {a1 : Nat} {r : Int32} {D1 : z_D} (hK0 : z_K G a0 = 109) (h : f_X9_takeRoot G D a0 a1 = some (r, D1)) : z_E q l yX9_takeRoot cX9_takeRoot 4 (some .int) 5 0 0 [.ref (z_w q a0), .ref (z_w q a1)] G D (some (.int r)) G D1 :=
  z_E.of (by decide) (Nat.le_of_ble_eq_true rfl) (fun X hX _ o => b_X9_takeRoot o hX hK0 h)
def j_X9_judge_144 (G : z_G) (D : z_D) (a0 : Nat) (a1 : Nat)  : Option (Int32) :=
  z_gK G 104 a1 ((if (0 : Int32) < (lg_cmp (z_J D 403 a1) (((z_I D 908 a0)).toInt64)) then ((some (0 : Int32))) else (((some (4 : Int32))))))
set_option maxRecDepth 100000 in
set_option maxHeartbeats 4000000 in
theorem tj_X9_judge_144 {q : z_Q} {X : z_X} {G : z_G} {D : z_D} {a0 : Nat} {a1 : Nat}  {r : Int32} (o : z_O q X cX9_judge 7 "FlashTrust$Update" "judge" (some .int)) (hX : x_R X = z_rm 4 0 0) (hK0 : z_K G a0 = 109) (h : j_X9_judge_144 G D a0 a1  = some r) : z_V q X 7 (z_F q X (some (.int r)) G D 0 0) 0 0 G D 144 [(0, .ref (z_w q a0)), (1, .ref (z_w q a1))] [] := by
  unfold j_X9_judge_144 at h
  refine v_aload_n o dX9_judge_144 rfl 1 rfl ?_
  obtain ⟨n23, h⟩ := z_gK_of h
  refine gt_4_3 o n23 ln_1_190 dX9_judge_145 ?_
  refine v_aload_n o dX9_judge_148 rfl 0 rfl ?_
  refine gt_9_8 o hK0 ln_3_2 dX9_judge_149 ?_
  refine v_i2l o dX9_judge_152 ?_
  refine v_lcmp o dX9_judge_153 ?_
  refine v_if_gt o 161 dX9_judge_154 (by decide) (fun c24 => ?_) (fun c24 => ?_)
  · replace h := z_ip c24 h
    refine v_iconst o (0 : Int32) dX9_judge_161 (by decide) ?_
    have hr := z_some h
    subst hr
    exact v_ireturn o dX9_judge_162
  · replace h := z_in c24 h
    refine v_iconst o (4 : Int32) dX9_judge_157 (by decide) ?_
    refine v_goto o 162 dX9_judge_158 (by decide) ?_
    have hr := z_some h
    subst hr
    exact v_ireturn o dX9_judge_162
def j_X9_judge_119 (G : z_G) (D : z_D) (a0 : Nat) (a1 : Nat) (a2 : Int32) (a5 : Int32) (a6 : Nat)  : Option (Int32) :=
  (if a2 = (3 : Int32) then (j_X9_judge_144 G D  a0 a1) else ((if a5 = (0 : Int32) then (j_X9_judge_144 G D  a0 a1) else (z_gK G 104 a1 (z_gK G 104 a6 ((if (z_I D 409 a6) ≤ (z_I D 409 a1) then (j_X9_judge_144 G D  a0 a1) else ((some (10 : Int32))))))))))
set_option maxRecDepth 100000 in
set_option maxHeartbeats 4000000 in
theorem tj_X9_judge_119 {q : z_Q} {X : z_X} {G : z_G} {D : z_D} {a0 : Nat} {a1 : Nat} {a2 : Int32} {a5 : Int32} {a6 : Nat}  {r : Int32} (o : z_O q X cX9_judge 7 "FlashTrust$Update" "judge" (some .int)) (hX : x_R X = z_rm 4 0 0) (hK0 : z_K G a0 = 109) (h : j_X9_judge_119 G D a0 a1 a2 a5 a6  = some r) : z_V q X 7 (z_F q X (some (.int r)) G D 0 0) 0 0 G D 119 [(0, .ref (z_w q a0)), (1, .ref (z_w q a1)), (2, .int a2), (5, .int a5), (6, .ref (z_w q a6))] [] := by
  unfold j_X9_judge_119 at h
  refine v_iload_n o dX9_judge_119 rfl 2 rfl ?_
  refine v_iconst o (3 : Int32) dX9_judge_120 (by decide) ?_
  refine v_icmp_eq o 144 dX9_judge_121 (by decide) (fun c22 => ?_) (fun c22 => ?_)
  · replace h := z_ip c22 h
    refine v_sub [0, 1] rfl ?_
    exact tj_X9_judge_144 o hX hK0 h
  · replace h := z_in c22 h
    refine v_iload o dX9_judge_124 3 rfl ?_
    refine v_if_eq o 144 dX9_judge_126 (by decide) (fun c25 => ?_) (fun c25 => ?_)
    · replace h := z_ip c25 h
      refine v_sub [0, 1] rfl ?_
      exact tj_X9_judge_144 o hX hK0 h
    · replace h := z_in c25 h
      refine v_aload_n o dX9_judge_129 rfl 1 rfl ?_
      obtain ⟨n26, h⟩ := z_gK_of h
      refine gt_4_9 o n26 ln_1_201 dX9_judge_130 ?_
      refine v_aload o dX9_judge_133 4 rfl ?_
      obtain ⟨n27, h⟩ := z_gK_of h
      refine gt_4_9 o n27 ln_1_201 dX9_judge_135 ?_
      refine v_icmp_ge o 144 dX9_judge_138 (by decide) (fun c28 => ?_) (fun c28 => ?_)
      · replace h := z_ip c28 h
        refine v_sub [0, 1] rfl ?_
        exact tj_X9_judge_144 o hX hK0 h
      · replace h := z_in c28 h
        refine v_bipush o (10 : Int32) dX9_judge_141 (by decide) ?_
        have hr := z_some h
        subst hr
        exact v_ireturn o dX9_judge_143
def j_X9_judge_65 (G : z_G) (D : z_D) (a0 : Nat) (a1 : Nat) (a2 : Int32) (a3 : Int32) (a4 : Nat) (a5 : Int32) (a6 : Nat)  : Option (Int32) :=
  (f_X9_trustedPaper G D a0 (0 : Int32)).bind (fun r16 => ((f_X9_hasRole G D a0 a1 r16 a2).bind (fun r18 => ((if r18 = (0 : Int32) then ((some (2 : Int32))) else ((if a3 = (0 : Int32) then ((if a5 = (0 : Int32) then (j_X9_judge_119 G D  a0 a1 a2 a5 a6) else (z_gK G 104 a1 (z_gK G 104 a6 ((if (z_I D 402 a6) ≤ (z_I D 402 a1) then (j_X9_judge_119 G D  a0 a1 a2 a5 a6) else ((some (3 : Int32))))))))) else (z_gK G 104 a1 (z_gK G 104 a4 ((if (z_I D 402 a1) = (z_I D 409 a4) then (j_X9_judge_119 G D  a0 a1 a2 a5 a6) else (((some (3 : Int32)))))))))))))))
set_option maxRecDepth 100000 in
set_option maxHeartbeats 4000000 in
theorem tj_X9_judge_65 {q : z_Q} {X : z_X} {G : z_G} {D : z_D} {a0 : Nat} {a1 : Nat} {a2 : Int32} {a3 : Int32} {a4 : Nat} {a5 : Int32} {a6 : Nat}  {r : Int32} (o : z_O q X cX9_judge 7 "FlashTrust$Update" "judge" (some .int)) (hX : x_R X = z_rm 4 0 0) (hK0 : z_K G a0 = 109) (h : j_X9_judge_65 G D a0 a1 a2 a3 a4 a5 a6  = some r) : z_V q X 7 (z_F q X (some (.int r)) G D 0 0) 0 0 G D 65 [(0, .ref (z_w q a0)), (1, .ref (z_w q a1)), (2, .int a2), (3, .int a3), (4, .ref (z_w q a4)), (5, .int a5), (6, .ref (z_w q a6))] [] := by
  unfold j_X9_judge_65 at h
  refine v_aload_n o dX9_judge_65 rfl 0 rfl ?_
  refine v_aload_n o dX9_judge_66 rfl 1 rfl ?_
  refine v_aload_n o dX9_judge_67 rfl 0 rfl ?_
  refine v_iconst o (0 : Int32) dX9_judge_68 (by decide) ?_
  obtain ⟨r16, he15, h⟩ := z_bind h
  refine v_callV o yw_X9_trustedPaper ln_3_208 wi_X9_trustedPaper ws_X9_trustedPaper hX (by decide) 9 rfl hK0 (As := [.int (0 : Int32)]) rfl rfl (Nat.le_of_ble_eq_true rfl) (e_X9_trustedPaper hK0 he15) dX9_judge_69 ?_
  refine v_iload_n o dX9_judge_72 rfl 2 rfl ?_
  obtain ⟨r18, he17, h⟩ := z_bind h
  refine v_callV o yw_X9_hasRole ln_4_32 wi_X9_hasRole ws_X9_hasRole hX (by decide) 9 rfl hK0 (As := [.ref (z_w q a1), .ref (z_w q r16), .int a2]) rfl rfl (Nat.le_of_ble_eq_true rfl) (e_X9_hasRole hK0 he17) dX9_judge_73 ?_
  refine v_if_ne o 81 dX9_judge_76 (by decide) (fun c19 => ?_) (fun c19 => ?_)
  · replace h := z_in c19 h
    refine v_iload_n o dX9_judge_81 rfl 3 rfl ?_
    refine v_if_eq o 100 dX9_judge_82 (by decide) (fun c20 => ?_) (fun c20 => ?_)
    · replace h := z_ip c20 h
      refine v_iload o dX9_judge_100 5 rfl ?_
      refine v_if_eq o 119 dX9_judge_102 (by decide) (fun c21 => ?_) (fun c21 => ?_)
      · replace h := z_ip c21 h
        refine v_sub [0, 1, 2, 5, 6] rfl ?_
        exact tj_X9_judge_119 o hX hK0 h
      · replace h := z_in c21 h
        refine v_aload_n o dX9_judge_105 rfl 1 rfl ?_
        obtain ⟨n29, h⟩ := z_gK_of h
        refine gt_4_2 o n29 ln_1_188 dX9_judge_106 ?_
        refine v_aload o dX9_judge_109 6 rfl ?_
        obtain ⟨n30, h⟩ := z_gK_of h
        refine gt_4_2 o n30 ln_1_188 dX9_judge_111 ?_
        refine v_icmp_ge o 119 dX9_judge_114 (by decide) (fun c31 => ?_) (fun c31 => ?_)
        · replace h := z_ip c31 h
          refine v_sub [0, 1, 2, 5, 6] rfl ?_
          exact tj_X9_judge_119 o hX hK0 h
        · replace h := z_in c31 h
          refine v_iconst o (3 : Int32) dX9_judge_117 (by decide) ?_
          have hr := z_some h
          subst hr
          exact v_ireturn o dX9_judge_118
    · replace h := z_in c20 h
      refine v_aload_n o dX9_judge_85 rfl 1 rfl ?_
      obtain ⟨n32, h⟩ := z_gK_of h
      refine gt_4_2 o n32 ln_1_188 dX9_judge_86 ?_
      refine v_aload o dX9_judge_89 4 rfl ?_
      obtain ⟨n33, h⟩ := z_gK_of h
      refine gt_4_9 o n33 ln_1_201 dX9_judge_91 ?_
      refine v_icmp_eq o 119 dX9_judge_94 (by decide) (fun c34 => ?_) (fun c34 => ?_)
      · replace h := z_ip c34 h
        refine v_sub [0, 1, 2, 5, 6] rfl ?_
        exact tj_X9_judge_119 o hX hK0 h
      · replace h := z_in c34 h
        refine v_goto o 117 dX9_judge_97 (by decide) ?_
        refine v_iconst o (3 : Int32) dX9_judge_117 (by decide) ?_
        have hr := z_some h
        subst hr
        exact v_ireturn o dX9_judge_118
  · replace h := z_ip c19 h
    refine v_iconst o (2 : Int32) dX9_judge_79 (by decide) ?_
    have hr := z_some h
    subst hr
    exact v_ireturn o dX9_judge_80
def j_X9_judge_23 (G : z_G) (D : z_D) (a0 : Nat) (a1 : Nat) (a2 : Int32) (a3 : Int32) (s0 : Int32) (s1 : Nat) : Option (Int32) :=
  z_gK G 109 s1 ((f_X9_trustedPaper G D s1 s0).bind (fun r5 => (z_gK G 3 (z_R G 901 a0) (z_gA G 3 (z_R G 901 a0) a2 (z_gK G 106 (z_A G (z_R G 901 a0) (a2).toNatClampNeg) ((f_X6_holds G D (z_A G (z_R G 901 a0) (a2).toNatClampNeg)).bind (fun r11 => ((f_X9_trustedPaper G D a0 a2).bind (fun r13 => ((if a3 = (0 : Int32) then (j_X9_judge_65 G D  a0 a1 a2 a3 r5 r11 r13) else (z_gK G 104 a1 (z_gK G 104 r5 ((if (lg_cmp (z_J D 405 a1) (z_J D 410 r5)) = (0 : Int32) then (j_X9_judge_65 G D  a0 a1 a2 a3 r5 r11 r13) else ((some (5 : Int32))))))))))))))))))
set_option maxRecDepth 100000 in
set_option maxHeartbeats 4000000 in
theorem tj_X9_judge_23 {q : z_Q} {X : z_X} {G : z_G} {D : z_D} {a0 : Nat} {a1 : Nat} {a2 : Int32} {a3 : Int32} {s0 : Int32} {s1 : Nat} {r : Int32} (o : z_O q X cX9_judge 7 "FlashTrust$Update" "judge" (some .int)) (hX : x_R X = z_rm 4 0 0) (hK0 : z_K G a0 = 109) (h : j_X9_judge_23 G D a0 a1 a2 a3 s0 s1 = some r) : z_V q X 7 (z_F q X (some (.int r)) G D 0 0) 0 0 G D 23 [(0, .ref (z_w q a0)), (1, .ref (z_w q a1)), (2, .int a2), (3, .int a3)] [.int s0, .ref (z_w q s1)] := by
  unfold j_X9_judge_23 at h
  obtain ⟨n3, h⟩ := z_gK_of h
  obtain ⟨r5, he4, h⟩ := z_bind h
  refine v_callV o yw_X9_trustedPaper ln_3_208 wi_X9_trustedPaper ws_X9_trustedPaper hX (by decide) 9 rfl n3 (As := [.int s0]) rfl rfl (Nat.le_of_ble_eq_true rfl) (e_X9_trustedPaper n3 he4) dX9_judge_23 ?_
  refine v_astore o [(4, .ref (z_w q r5)), (0, .ref (z_w q a0)), (1, .ref (z_w q a1)), (2, .int a2), (3, .int a3)] dX9_judge_26 (by decide) rfl ?_
  refine v_aload_n o dX9_judge_28 rfl 1 rfl ?_
  obtain ⟨n6, h⟩ := z_gK_of h
  refine gt_9_1 o hK0 ln_2_233 (by rw [n6]; decide) dX9_judge_29 ?_
  refine v_iload_n o dX9_judge_32 rfl 3 rfl ?_
  obtain ⟨n7, n8, h⟩ := z_gA_of h
  obtain ⟨n9, h⟩ := z_gK_of h
  refine v_aaldK o n7 n8 (by rw [n9]; decide) dX9_judge_33 ?_
  obtain ⟨r11, he10, h⟩ := z_bind h
  refine v_callV o yw_X6_holds ln_4_41 wi_X6_holds ws_X6_holds hX (by decide) 6 rfl n9 (As := []) rfl rfl (Nat.le_of_ble_eq_true rfl) (e_X6_holds n9 he10) dX9_judge_34 ?_
  refine v_istore o [(5, .int r11), (4, .ref (z_w q r5)), (0, .ref (z_w q a0)), (1, .ref (z_w q a1)), (2, .int a2), (3, .int a3)] dX9_judge_37 (by decide) rfl ?_
  refine v_aload_n o dX9_judge_39 rfl 2 rfl ?_
  refine v_iload_n o dX9_judge_40 rfl 4 rfl ?_
  obtain ⟨r13, he12, h⟩ := z_bind h
  refine v_callV o yw_X9_trustedPaper ln_3_208 wi_X9_trustedPaper ws_X9_trustedPaper hX (by decide) 9 rfl hK0 (As := [.int a2]) rfl rfl (Nat.le_of_ble_eq_true rfl) (e_X9_trustedPaper hK0 he12) dX9_judge_41 ?_
  refine v_astore o [(6, .ref (z_w q r13)), (5, .int r11), (4, .ref (z_w q r5)), (0, .ref (z_w q a0)), (1, .ref (z_w q a1)), (2, .int a2), (3, .int a3)] dX9_judge_44 (by decide) rfl ?_
  refine v_iload_n o dX9_judge_46 rfl 6 rfl ?_
  refine v_if_eq o 65 dX9_judge_47 (by decide) (fun c14 => ?_) (fun c14 => ?_)
  · replace h := z_ip c14 h
    refine v_sub [3, 4, 5, 6, 2, 1, 0] rfl ?_
    exact tj_X9_judge_65 o hX hK0 h
  · replace h := z_in c14 h
    refine v_aload_n o dX9_judge_50 rfl 4 rfl ?_
    obtain ⟨n35, h⟩ := z_gK_of h
    refine gt_4_5 o n35 ln_1_194 dX9_judge_51 ?_
    refine v_aload o dX9_judge_54 2 rfl ?_
    obtain ⟨n36, h⟩ := z_gK_of h
    refine gt_4_10 o n36 ln_1_203 dX9_judge_56 ?_
    refine v_lcmp o dX9_judge_59 ?_
    refine v_if_eq o 65 dX9_judge_60 (by decide) (fun c37 => ?_) (fun c37 => ?_)
    · replace h := z_ip c37 h
      refine v_sub [3, 4, 5, 6, 2, 1, 0] rfl ?_
      exact tj_X9_judge_65 o hX hK0 h
    · replace h := z_in c37 h
      refine v_iconst o (5 : Int32) dX9_judge_63 (by decide) ?_
      have hr := z_some h
      subst hr
      exact v_ireturn o dX9_judge_64
def j_X9_judge_10 (G : z_G) (D : z_D) (a0 : Nat) (a1 : Nat) (a2 : Int32) (s0 : Int32) : Option (Int32) :=
  (if s0 = (0 : Int32) then ((j_X9_judge_23 G D  a0 a1 a2 s0 a2 a0)) else ((j_X9_judge_23 G D  a0 a1 a2 s0 (a2 - (1 : Int32)) a0)))
set_option maxRecDepth 100000 in
set_option maxHeartbeats 4000000 in
theorem tj_X9_judge_10 {q : z_Q} {X : z_X} {G : z_G} {D : z_D} {a0 : Nat} {a1 : Nat} {a2 : Int32} {s0 : Int32} {r : Int32} (o : z_O q X cX9_judge 7 "FlashTrust$Update" "judge" (some .int)) (hX : x_R X = z_rm 4 0 0) (hK0 : z_K G a0 = 109) (h : j_X9_judge_10 G D a0 a1 a2 s0 = some r) : z_V q X 7 (z_F q X (some (.int r)) G D 0 0) 0 0 G D 10 [(0, .ref (z_w q a0)), (1, .ref (z_w q a1)), (2, .int a2)] [.int s0] := by
  unfold j_X9_judge_10 at h
  refine v_istore_n o [(3, .int s0), (0, .ref (z_w q a0)), (1, .ref (z_w q a1)), (2, .int a2)] dX9_judge_10 rfl (by decide) rfl ?_
  refine v_aload_n o dX9_judge_11 rfl 1 rfl ?_
  refine v_iload_n o dX9_judge_12 rfl 0 rfl ?_
  refine v_if_eq o 22 dX9_judge_13 (by decide) (fun c2 => ?_) (fun c2 => ?_)
  · replace h := z_ip c2 h
    refine v_iload_n o dX9_judge_22 rfl 3 rfl ?_
    refine v_sub [1, 2, 3, 0] rfl ?_
    exact tj_X9_judge_23 o hX hK0 h
  · replace h := z_in c2 h
    refine v_iload_n o dX9_judge_16 rfl 3 rfl ?_
    refine v_iconst o (1 : Int32) dX9_judge_17 (by decide) ?_
    refine v_isub o dX9_judge_18 ?_
    refine v_goto o 23 dX9_judge_19 (by decide) ?_
    refine v_sub [1, 2, 3, 0] rfl ?_
    exact tj_X9_judge_23 o hX hK0 h
def f_X9_judge (G : z_G) (D : z_D) (a0 : Nat) (a1 : Nat) (a2 : Int32) : Option (Int32) :=
  (if a2 = (1 : Int32) then ((j_X9_judge_10 G D  a0 a1 a2 (0 : Int32))) else ((j_X9_judge_10 G D  a0 a1 a2 (1 : Int32))))
set_option maxRecDepth 100000 in
set_option maxHeartbeats 4000000 in
theorem b_X9_judge {q : z_Q} {X : z_X} {G : z_G} {D : z_D} {a0 : Nat} {a1 : Nat} {a2 : Int32} {r : Int32} (o : z_O q X cX9_judge 7 "FlashTrust$Update" "judge" (some .int)) (hX : x_R X = z_rm 4 0 0) (hK0 : z_K G a0 = 109) (h : f_X9_judge G D a0 a1 a2 = some r) : z_V q X 7 (z_F q X (some (.int r)) G D 0 0) 0 0 G D 0 [(0, .ref (z_w q a0)), (1, .ref (z_w q a1)), (2, .int a2)] [] := by
  unfold f_X9_judge at h
  refine v_iload_n o dX9_judge_0 rfl 2 rfl ?_
  refine v_iconst o (1 : Int32) dX9_judge_1 (by decide) ?_
  refine v_icmp_eq o 9 dX9_judge_2 (by decide) (fun c1 => ?_) (fun c1 => ?_)
  · replace h := z_ip c1 h
    refine v_iconst o (0 : Int32) dX9_judge_9 (by decide) ?_
    exact tj_X9_judge_10 o hX hK0 h
  · replace h := z_in c1 h
    refine v_iconst o (1 : Int32) dX9_judge_5 (by decide) ?_
    refine v_goto o 10 dX9_judge_6 (by decide) ?_
    exact tj_X9_judge_10 o hX hK0 h
theorem e_X9_judge {q : z_Q} {l : Launch} {G : z_G} {D : z_D} {a0 : Nat} {a1 : Nat} {a2 : Int32} {r : Int32} (hK0 : z_K G a0 = 109) (h : f_X9_judge G D a0 a1 a2 = some r) : z_E q l yX9_judge cX9_judge 7 (some .int) 4 0 0 [.ref (z_w q a0), .ref (z_w q a1), .int a2] G D (some (.int r)) G D :=
  z_E.of (by decide) (Nat.le_of_ble_eq_true rfl) (fun X hX _ o => b_X9_judge o hX hK0 h)
def f_X9_isTrustedAsTold (G : z_G) (D : z_D) (a0 : Nat) (a1 : Int32) : Option (Int32) :=
  z_gK G 3 (z_R G 901 a0) (z_gA G 3 (z_R G 901 a0) a1 (z_gK G 106 (z_A G (z_R G 901 a0) (a1).toNatClampNeg) ((f_X6_holds G D (z_A G (z_R G 901 a0) (a1).toNatClampNeg)).bind (fun r6 => ((if r6 = (0 : Int32) then ((some (0 : Int32))) else ((f_X9_trustedPaper G D a0 a1).bind (fun r9 => (z_gK G 104 r9 ((f_X9_trustedPaper G D a0 (a1 - (1 : Int32))).bind (fun r12 => (z_gK G 104 r12 ((if (lg_cmp (z_J D 405 r9) (z_J D 410 r12)) = (0 : Int32) then (((some (1 : Int32)))) else ((some (0 : Int32)))))))))))))))))
set_option maxRecDepth 100000 in
set_option maxHeartbeats 4000000 in
theorem b_X9_isTrustedAsTold {q : z_Q} {X : z_X} {G : z_G} {D : z_D} {a0 : Nat} {a1 : Int32} {r : Int32} (o : z_O q X cX9_isTrustedAsTold 2 "FlashTrust$Update" "isTrustedAsTold" (some .boolean)) (hX : x_R X = z_rm 4 0 0) (hK0 : z_K G a0 = 109) (h : f_X9_isTrustedAsTold G D a0 a1 = some r) : z_V q X 2 (z_F q X (some (.int r)) G D 0 0) 0 0 G D 0 [(0, .ref (z_w q a0)), (1, .int a1)] [] := by
  unfold f_X9_isTrustedAsTold at h
  refine v_aload_n o dX9_isTrustedAsTold_0 rfl 0 rfl ?_
  obtain ⟨n1, h⟩ := z_gK_of h
  refine gt_9_1 o hK0 ln_2_233 (by rw [n1]; decide) dX9_isTrustedAsTold_1 ?_
  refine v_iload_n o dX9_isTrustedAsTold_4 rfl 1 rfl ?_
  obtain ⟨n2, n3, h⟩ := z_gA_of h
  obtain ⟨n4, h⟩ := z_gK_of h
  refine v_aaldK o n2 n3 (by rw [n4]; decide) dX9_isTrustedAsTold_5 ?_
  obtain ⟨r6, he5, h⟩ := z_bind h
  refine v_callV o yw_X6_holds ln_4_41 wi_X6_holds ws_X6_holds hX (by decide) 6 rfl n4 (As := []) rfl rfl (Nat.le_of_ble_eq_true rfl) (e_X6_holds n4 he5) dX9_isTrustedAsTold_6 ?_
  refine v_if_eq o 38 dX9_isTrustedAsTold_9 (by decide) (fun c7 => ?_) (fun c7 => ?_)
  · replace h := z_ip c7 h
    refine v_iconst o (0 : Int32) dX9_isTrustedAsTold_38 (by decide) ?_
    have hr := z_some h
    subst hr
    exact v_zreturn o (by decide) dX9_isTrustedAsTold_39
  · replace h := z_in c7 h
    refine v_aload_n o dX9_isTrustedAsTold_12 rfl 0 rfl ?_
    refine v_iload_n o dX9_isTrustedAsTold_13 rfl 1 rfl ?_
    obtain ⟨r9, he8, h⟩ := z_bind h
    refine v_callV o yw_X9_trustedPaper ln_3_208 wi_X9_trustedPaper ws_X9_trustedPaper hX (by decide) 9 rfl hK0 (As := [.int a1]) rfl rfl (Nat.le_of_ble_eq_true rfl) (e_X9_trustedPaper hK0 he8) dX9_isTrustedAsTold_14 ?_
    obtain ⟨n10, h⟩ := z_gK_of h
    refine gt_4_5 o n10 ln_1_194 dX9_isTrustedAsTold_17 ?_
    refine v_aload_n o dX9_isTrustedAsTold_20 rfl 0 rfl ?_
    refine v_iload_n o dX9_isTrustedAsTold_21 rfl 1 rfl ?_
    refine v_iconst o (1 : Int32) dX9_isTrustedAsTold_22 (by decide) ?_
    refine v_isub o dX9_isTrustedAsTold_23 ?_
    obtain ⟨r12, he11, h⟩ := z_bind h
    refine v_callV o yw_X9_trustedPaper ln_3_208 wi_X9_trustedPaper ws_X9_trustedPaper hX (by decide) 9 rfl hK0 (As := [.int (a1 - (1 : Int32))]) rfl rfl (Nat.le_of_ble_eq_true rfl) (e_X9_trustedPaper hK0 he11) dX9_isTrustedAsTold_24 ?_
    obtain ⟨n13, h⟩ := z_gK_of h
    refine gt_4_10 o n13 ln_1_203 dX9_isTrustedAsTold_27 ?_
    refine v_lcmp o dX9_isTrustedAsTold_30 ?_
    refine v_if_ne o 38 dX9_isTrustedAsTold_31 (by decide) (fun c14 => ?_) (fun c14 => ?_)
    · replace h := z_in c14 h
      refine v_iconst o (0 : Int32) dX9_isTrustedAsTold_38 (by decide) ?_
      have hr := z_some h
      subst hr
      exact v_zreturn o (by decide) dX9_isTrustedAsTold_39
    · replace h := z_ip c14 h
      refine v_iconst o (1 : Int32) dX9_isTrustedAsTold_34 (by decide) ?_
      refine v_goto o 39 dX9_isTrustedAsTold_35 (by decide) ?_
      have hr := z_some h
      subst hr
      exact v_zreturn o (by decide) dX9_isTrustedAsTold_39
theorem e_X9_isTrustedAsTold {q : z_Q} {l : Launch} {G : z_G} {D : z_D} {a0 : Nat} {a1 : Int32} {r : Int32} (hK0 : z_K G a0 = 109) (h : f_X9_isTrustedAsTold G D a0 a1 = some r) : z_E q l yX9_isTrustedAsTold cX9_isTrustedAsTold 2 (some .boolean) 4 0 0 [.ref (z_w q a0), .int a1] G D (some (.int r)) G D :=
  z_E.of (by decide) (Nat.le_of_ble_eq_true rfl) (fun X hX _ o => b_X9_isTrustedAsTold o hX hK0 h)
def j_X9_chooseImage_185 (G : z_G) (D : z_D) (a0 : Nat)  : Option (Int32 × z_D) :=
  (some ((z_I (z_sI D 906 a0 (5 : Int32)) 906 a0), (z_sI D 906 a0 (5 : Int32))))
set_option maxRecDepth 100000 in
set_option maxHeartbeats 4000000 in
theorem tj_X9_chooseImage_185 {q : z_Q} {X : z_X} {G : z_G} {D : z_D} {a0 : Nat}  {r : Int32} {D1 : z_D} (o : z_O q X cX9_chooseImage 8 "FlashTrust$Update" "chooseImage" (some .int)) (hX : x_R X = z_rm 4 0 0) (hK0 : z_K G a0 = 109) (h : j_X9_chooseImage_185 G D a0  = some (r, D1)) : z_V q X 8 (z_F q X (some (.int r)) G D1 0 0) 0 0 G D 185 [(0, .ref (z_w q a0))] [] := by
  unfold j_X9_chooseImage_185 at h
  refine v_aload_n o dX9_chooseImage_185 rfl 0 rfl ?_
  refine v_iconst o (5 : Int32) dX9_chooseImage_186 (by decide) ?_
  refine pt_9_6 o hK0 ln_2_238 dX9_chooseImage_187 ?_
  refine v_aload_n o dX9_chooseImage_190 rfl 0 rfl ?_
  refine gt_9_6 o hK0 ln_2_238 dX9_chooseImage_191 ?_
  obtain ⟨hr, hs⟩ := Prod.mk.inj (z_some h)
  subst hr
  subst hs
  exact v_ireturn o dX9_chooseImage_194
def j_X9_chooseImage_146 (G : z_G) (D : z_D) (a0 : Nat) (a3 : Int32) (a4 : Int32) (a5 : Int64)  : Option (Int32 × z_D) :=
  z_gK G 101 (z_R G 900 a0) (z_gK G 108 (z_R G 902 a0) ((f_X8_otherSlot G D (z_R G 902 a0)).bind (fun r32 => ((f_X1_eraseSlot G D (z_R G 900 a0) r32).bind (fun D34 => ((f_X8_stage G D34 (z_R G 902 a0) (1 : Int32) a3 a4 a5).bind (fun D36 => ((f_X8_store G D36 (z_R G 902 a0)).bind (fun D38 => ((j_X9_chooseImage_185 G (z_sI D38 907 a0 (0 : Int32))  a0)))))))))))
set_option maxRecDepth 100000 in
set_option maxHeartbeats 4000000 in
theorem tj_X9_chooseImage_146 {q : z_Q} {X : z_X} {G : z_G} {D : z_D} {a0 : Nat} {a3 : Int32} {a4 : Int32} {a5 : Int64}  {r : Int32} {D1 : z_D} (o : z_O q X cX9_chooseImage 8 "FlashTrust$Update" "chooseImage" (some .int)) (hX : x_R X = z_rm 4 0 0) (hK0 : z_K G a0 = 109) (h : j_X9_chooseImage_146 G D a0 a3 a4 a5  = some (r, D1)) : z_V q X 8 (z_F q X (some (.int r)) G D1 0 0) 0 0 G D 146 [(0, .ref (z_w q a0)), (3, .int a3), (4, .int a4), (5, .long a5)] [] := by
  unfold j_X9_chooseImage_146 at h
  refine v_aload_n o dX9_chooseImage_146 rfl 0 rfl ?_
  obtain ⟨n29, h⟩ := z_gK_of h
  refine gt_9_0 o hK0 ln_2_232 (by rw [n29]; decide) dX9_chooseImage_147 ?_
  refine v_aload_n o dX9_chooseImage_150 rfl 0 rfl ?_
  obtain ⟨n30, h⟩ := z_gK_of h
  refine gt_9_2 o hK0 ln_2_234 (by rw [n30]; decide) dX9_chooseImage_151 ?_
  obtain ⟨r32, he31, h⟩ := z_bind h
  refine v_callV o yw_X8_otherSlot ln_4_87 wi_X8_otherSlot ws_X8_otherSlot hX (by decide) 8 rfl n30 (As := []) rfl rfl (Nat.le_of_ble_eq_true rfl) (e_X8_otherSlot n30 he31) dX9_chooseImage_154 ?_
  obtain ⟨D34, he33, h⟩ := z_bind h
  refine v_callV o yw_X1_eraseSlot ln_4_152 wi_X1_eraseSlot ws_X1_eraseSlot hX (by decide) 1 rfl n29 (As := [.int r32]) rfl rfl (Nat.le_of_ble_eq_true rfl) (e_X1_eraseSlot n29 he33) dX9_chooseImage_157 ?_
  refine v_aload_n o dX9_chooseImage_160 rfl 0 rfl ?_
  refine gt_9_2 o hK0 ln_2_234 (by rw [n30]; decide) dX9_chooseImage_161 ?_
  refine v_iconst o (1 : Int32) dX9_chooseImage_164 (by decide) ?_
  refine v_iload_n o dX9_chooseImage_165 rfl 1 rfl ?_
  refine v_iload o dX9_chooseImage_166 2 rfl ?_
  refine v_lload o dX9_chooseImage_168 3 rfl ?_
  obtain ⟨D36, he35, h⟩ := z_bind h
  refine v_callV o yw_X8_stage ln_4_157 wi_X8_stage ws_X8_stage hX (by decide) 8 rfl n30 (As := [.int (1 : Int32), .int a3, .int a4, .long a5]) rfl rfl (Nat.le_of_ble_eq_true rfl) (e_X8_stage n30 he35) dX9_chooseImage_170 ?_
  refine v_aload_n o dX9_chooseImage_173 rfl 0 rfl ?_
  refine gt_9_2 o hK0 ln_2_234 (by rw [n30]; decide) dX9_chooseImage_174 ?_
  obtain ⟨D38, he37, h⟩ := z_bind h
  refine v_callV o yw_X8_store ln_4_103 wi_X8_store ws_X8_store hX (by decide) 8 rfl n30 (As := []) rfl rfl (Nat.le_of_ble_eq_true rfl) (e_X8_store n30 he37) dX9_chooseImage_177 ?_
  refine v_aload_n o dX9_chooseImage_180 rfl 0 rfl ?_
  refine v_iconst o (0 : Int32) dX9_chooseImage_181 (by decide) ?_
  refine pt_9_7 o hK0 ln_3_0 dX9_chooseImage_182 ?_
  refine v_sub [0] rfl ?_
  exact tj_X9_chooseImage_185 o hX hK0 h
def j_X9_chooseImage_107 (G : z_G) (D : z_D) (a0 : Nat) (a3 : Int32) (a4 : Int32) (a5 : Int64) (a7 : Int32)  : Option (Int32 × z_D) :=
  (if a7 = (0 : Int32) then (j_X9_chooseImage_146 G D  a0 a3 a4 a5) else (z_gK G 108 (z_R G 902 a0) ((if (z_I D 810 (z_R G 902 a0)) = (1 : Int32) then (z_gK G 101 (z_R G 900 a0) ((f_X8_otherSlot G D (z_R G 902 a0)).bind (fun r43 => ((f_X1_lastWrittenPiece G D (z_R G 900 a0) r43 a4).bind (fun r45 => ((j_X9_chooseImage_185 G (z_sI D 907 a0 r45)  a0))))))) else (j_X9_chooseImage_146 G D  a0 a3 a4 a5)))))
set_option maxRecDepth 100000 in
set_option maxHeartbeats 4000000 in
theorem tj_X9_chooseImage_107 {q : z_Q} {X : z_X} {G : z_G} {D : z_D} {a0 : Nat} {a3 : Int32} {a4 : Int32} {a5 : Int64} {a7 : Int32}  {r : Int32} {D1 : z_D} (o : z_O q X cX9_chooseImage 8 "FlashTrust$Update" "chooseImage" (some .int)) (hX : x_R X = z_rm 4 0 0) (hK0 : z_K G a0 = 109) (h : j_X9_chooseImage_107 G D a0 a3 a4 a5 a7  = some (r, D1)) : z_V q X 8 (z_F q X (some (.int r)) G D1 0 0) 0 0 G D 107 [(0, .ref (z_w q a0)), (3, .int a3), (4, .int a4), (5, .long a5), (7, .int a7)] [] := by
  unfold j_X9_chooseImage_107 at h
  refine v_iload o dX9_chooseImage_107 4 rfl ?_
  refine v_if_eq o 146 dX9_chooseImage_109 (by decide) (fun c28 => ?_) (fun c28 => ?_)
  · replace h := z_ip c28 h
    refine v_sub [0, 1, 2, 3] rfl ?_
    exact tj_X9_chooseImage_146 o hX hK0 h
  · replace h := z_in c28 h
    refine v_aload_n o dX9_chooseImage_112 rfl 0 rfl ?_
    obtain ⟨n39, h⟩ := z_gK_of h
    refine gt_9_2 o hK0 ln_2_234 (by rw [n39]; decide) dX9_chooseImage_113 ?_
    refine gt_8_10 o n39 ln_2_101 dX9_chooseImage_116 ?_
    refine v_iconst o (1 : Int32) dX9_chooseImage_119 (by decide) ?_
    refine v_icmp_ne o 146 dX9_chooseImage_120 (by decide) (fun c40 => ?_) (fun c40 => ?_)
    · replace h := z_in c40 h
      refine v_sub [0, 1, 2, 3] rfl ?_
      exact tj_X9_chooseImage_146 o hX hK0 h
    · replace h := z_ip c40 h
      refine v_aload_n o dX9_chooseImage_123 rfl 0 rfl ?_
      refine v_aload_n o dX9_chooseImage_124 rfl 0 rfl ?_
      obtain ⟨n41, h⟩ := z_gK_of h
      refine gt_9_0 o hK0 ln_2_232 (by rw [n41]; decide) dX9_chooseImage_125 ?_
      refine v_aload_n o dX9_chooseImage_128 rfl 0 rfl ?_
      refine gt_9_2 o hK0 ln_2_234 (by rw [n39]; decide) dX9_chooseImage_129 ?_
      obtain ⟨r43, he42, h⟩ := z_bind h
      refine v_callV o yw_X8_otherSlot ln_4_87 wi_X8_otherSlot ws_X8_otherSlot hX (by decide) 8 rfl n39 (As := []) rfl rfl (Nat.le_of_ble_eq_true rfl) (e_X8_otherSlot n39 he42) dX9_chooseImage_132 ?_
      refine v_iload o dX9_chooseImage_135 2 rfl ?_
      obtain ⟨r45, he44, h⟩ := z_bind h
      refine v_callV o yw_X1_lastWrittenPiece ln_4_148 wi_X1_lastWrittenPiece ws_X1_lastWrittenPiece hX (by decide) 1 rfl n41 (As := [.int r43, .int a4]) rfl rfl (Nat.le_of_ble_eq_true rfl) (e_X1_lastWrittenPiece n41 he44) dX9_chooseImage_137 ?_
      refine pt_9_7 o hK0 ln_3_0 dX9_chooseImage_140 ?_
      refine v_goto o 185 dX9_chooseImage_143 (by decide) ?_
      refine v_sub [0] rfl ?_
      exact tj_X9_chooseImage_185 o hX hK0 h
def f_X9_chooseImage (G : z_G) (D : z_D) (a0 : Nat) : Option (Int32 × z_D) :=
  (f_X9_trustedPaper G D a0 (3 : Int32)).bind (fun r2 => (z_gK G 104 r2 ((if ((z_I D 411 r2) - (1 : Int32)) < (0 : Int32) then ((f_X9_fail G D a0 (9 : Int32)).bind (fun p6 => ((some (p6.1, p6.2))))) else ((if (4 : Int32) ≤ ((z_I D 411 r2) - (1 : Int32)) then ((f_X9_fail G D a0 (9 : Int32)).bind (fun p9 => ((some (p9.1, p9.2))))) else (z_gK G 1 (z_R G 412 r2) (z_gA G 1 (z_R G 412 r2) ((z_I D 411 r2) - (1 : Int32)) (z_gK G 108 (z_R G 902 a0) ((if (z_I D 807 (z_R G 902 a0)) < (z_U D (z_R G 412 r2) (((z_I D 411 r2) - (1 : Int32))).toNatClampNeg) then (z_gA G 1 (z_R G 412 r2) ((z_I D 411 r2) - (1 : Int32)) (z_gK G 1 (z_R G 413 r2) (z_gA G 1 (z_R G 413 r2) ((z_I D 411 r2) - (1 : Int32)) (z_gK G 2 (z_R G 414 r2) (z_gA G 2 (z_R G 414 r2) ((z_I D 411 r2) - (1 : Int32)) ((f_X1_lowest G D (z_Y D (z_R G 414 r2) (((z_I D 411 r2) - (1 : Int32))).toNatClampNeg)).bind (fun r24 => ((f_X8_stages G D (z_R G 902 a0) (z_U D (z_R G 412 r2) (((z_I D 411 r2) - (1 : Int32))).toNatClampNeg) (z_U D (z_R G 413 r2) (((z_I D 411 r2) - (1 : Int32))).toNatClampNeg) r24).bind (fun r26 => ((if r26 = (0 : Int32) then (j_X9_chooseImage_107 G D  a0 (z_U D (z_R G 412 r2) (((z_I D 411 r2) - (1 : Int32))).toNatClampNeg) (z_U D (z_R G 413 r2) (((z_I D 411 r2) - (1 : Int32))).toNatClampNeg) r24 r26) else ((if (z_I D 810 (z_R G 902 a0)) = (2 : Int32) then ((f_X9_giveUp G D a0).bind (fun D48 => ((some ((0 : Int32), D48))))) else (j_X9_chooseImage_107 G D  a0 (z_U D (z_R G 412 r2) (((z_I D 411 r2) - (1 : Int32))).toNatClampNeg) (z_U D (z_R G 413 r2) (((z_I D 411 r2) - (1 : Int32))).toNatClampNeg) r24 r26)))))))))))))) else ((f_X9_fail G D a0 (9 : Int32)).bind (fun p50 => ((some (p50.1, p50.2))))))))))))))))
set_option maxRecDepth 100000 in
set_option maxHeartbeats 4000000 in
theorem b_X9_chooseImage {q : z_Q} {X : z_X} {G : z_G} {D : z_D} {a0 : Nat} {r : Int32} {D1 : z_D} (o : z_O q X cX9_chooseImage 8 "FlashTrust$Update" "chooseImage" (some .int)) (hX : x_R X = z_rm 4 0 0) (hK0 : z_K G a0 = 109) (h : f_X9_chooseImage G D a0 = some (r, D1)) : z_V q X 8 (z_F q X (some (.int r)) G D1 0 0) 0 0 G D 0 [(0, .ref (z_w q a0))] [] := by
  unfold f_X9_chooseImage at h
  refine v_aload_n o dX9_chooseImage_0 rfl 0 rfl ?_
  refine v_iconst o (3 : Int32) dX9_chooseImage_1 (by decide) ?_
  obtain ⟨r2, he1, h⟩ := z_bind h
  refine v_callV o yw_X9_trustedPaper ln_3_208 wi_X9_trustedPaper ws_X9_trustedPaper hX (by decide) 9 rfl hK0 (As := [.int (3 : Int32)]) rfl rfl (Nat.le_of_ble_eq_true rfl) (e_X9_trustedPaper hK0 he1) dX9_chooseImage_2 ?_
  refine v_astore_n o [(1, .ref (z_w q r2)), (0, .ref (z_w q a0))] dX9_chooseImage_5 rfl (by decide) rfl ?_
  refine v_aload_n o dX9_chooseImage_6 rfl 0 rfl ?_
  obtain ⟨n3, h⟩ := z_gK_of h
  refine gt_4_11 o n3 ln_1_205 dX9_chooseImage_7 ?_
  refine v_iconst o (1 : Int32) dX9_chooseImage_10 (by decide) ?_
  refine v_isub o dX9_chooseImage_11 ?_
  refine v_istore_n o [(2, .int ((z_I D 411 r2) - (1 : Int32))), (1, .ref (z_w q r2)), (0, .ref (z_w q a0))] dX9_chooseImage_12 rfl (by decide) rfl ?_
  refine v_iload_n o dX9_chooseImage_13 rfl 0 rfl ?_
  refine v_if_lt o 38 dX9_chooseImage_14 (by decide) (fun c4 => ?_) (fun c4 => ?_)
  · replace h := z_ip c4 h
    refine v_aload_n o dX9_chooseImage_38 rfl 2 rfl ?_
    refine v_bipush o (9 : Int32) dX9_chooseImage_39 (by decide) ?_
    obtain ⟨p6, he5, h⟩ := z_bind h
    refine v_callV o yw_X9_fail ln_4_24 wi_X9_fail ws_X9_fail hX (by decide) 9 rfl hK0 (As := [.int (9 : Int32)]) rfl rfl (Nat.le_of_ble_eq_true rfl) (e_X9_fail hK0 he5) dX9_chooseImage_41 ?_
    obtain ⟨hr, hs⟩ := Prod.mk.inj (z_some h)
    subst hr
    subst hs
    exact v_ireturn o dX9_chooseImage_44
  · replace h := z_in c4 h
    refine v_iload_n o dX9_chooseImage_17 rfl 0 rfl ?_
    refine v_iconst o (4 : Int32) dX9_chooseImage_18 (by decide) ?_
    refine v_icmp_ge o 38 dX9_chooseImage_19 (by decide) (fun c7 => ?_) (fun c7 => ?_)
    · replace h := z_ip c7 h
      refine v_aload_n o dX9_chooseImage_38 rfl 2 rfl ?_
      refine v_bipush o (9 : Int32) dX9_chooseImage_39 (by decide) ?_
      obtain ⟨p9, he8, h⟩ := z_bind h
      refine v_callV o yw_X9_fail ln_4_24 wi_X9_fail ws_X9_fail hX (by decide) 9 rfl hK0 (As := [.int (9 : Int32)]) rfl rfl (Nat.le_of_ble_eq_true rfl) (e_X9_fail hK0 he8) dX9_chooseImage_41 ?_
      obtain ⟨hr, hs⟩ := Prod.mk.inj (z_some h)
      subst hr
      subst hs
      exact v_ireturn o dX9_chooseImage_44
    · replace h := z_in c7 h
      refine v_aload_n o dX9_chooseImage_22 rfl 1 rfl ?_
      obtain ⟨n10, h⟩ := z_gK_of h
      refine gt_4_12 o n3 ln_1_207 (by rw [n10]; decide) dX9_chooseImage_23 ?_
      refine v_iload_n o dX9_chooseImage_26 rfl 0 rfl ?_
      obtain ⟨n11, n12, h⟩ := z_gA_of h
      refine v_iald o n11 n12 dX9_chooseImage_27 ?_
      refine v_aload_n o dX9_chooseImage_28 rfl 2 rfl ?_
      obtain ⟨n13, h⟩ := z_gK_of h
      refine gt_9_2 o hK0 ln_2_234 (by rw [n13]; decide) dX9_chooseImage_29 ?_
      refine gt_8_7 o n13 ln_2_94 dX9_chooseImage_32 ?_
      refine v_icmp_gt o 45 dX9_chooseImage_35 (by decide) (fun c14 => ?_) (fun c14 => ?_)
      · replace h := z_ip c14 h
        refine v_aload_n o dX9_chooseImage_45 rfl 1 rfl ?_
        refine gt_4_12 o n3 ln_1_207 (by rw [n10]; decide) dX9_chooseImage_46 ?_
        refine v_iload_n o dX9_chooseImage_49 rfl 0 rfl ?_
        obtain ⟨n15, n16, h⟩ := z_gA_of h
        refine v_iald o n15 n16 dX9_chooseImage_50 ?_
        refine v_istore_n o [(3, .int (z_U D (z_R G 412 r2) (((z_I D 411 r2) - (1 : Int32))).toNatClampNeg)), (2, .int ((z_I D 411 r2) - (1 : Int32))), (1, .ref (z_w q r2)), (0, .ref (z_w q a0))] dX9_chooseImage_51 rfl (by decide) rfl ?_
        refine v_aload_n o dX9_chooseImage_52 rfl 2 rfl ?_
        obtain ⟨n17, h⟩ := z_gK_of h
        refine gt_4_13 o n3 ln_1_209 (by rw [n17]; decide) dX9_chooseImage_53 ?_
        refine v_iload_n o dX9_chooseImage_56 rfl 1 rfl ?_
        obtain ⟨n18, n19, h⟩ := z_gA_of h
        refine v_iald o n18 n19 dX9_chooseImage_57 ?_
        refine v_istore o [(4, .int (z_U D (z_R G 413 r2) (((z_I D 411 r2) - (1 : Int32))).toNatClampNeg)), (3, .int (z_U D (z_R G 412 r2) (((z_I D 411 r2) - (1 : Int32))).toNatClampNeg)), (2, .int ((z_I D 411 r2) - (1 : Int32))), (1, .ref (z_w q r2)), (0, .ref (z_w q a0))] dX9_chooseImage_58 (by decide) rfl ?_
        refine v_aload_n o dX9_chooseImage_60 rfl 3 rfl ?_
        obtain ⟨n20, h⟩ := z_gK_of h
        refine gt_4_14 o n3 ln_1_211 (by rw [n20]; decide) dX9_chooseImage_61 ?_
        refine v_iload_n o dX9_chooseImage_64 rfl 2 rfl ?_
        obtain ⟨n21, n22, h⟩ := z_gA_of h
        refine v_lald o n21 n22 dX9_chooseImage_65 ?_
        obtain ⟨r24, he23, h⟩ := z_bind h
        refine v_callS o yw_X1_lowest ln_4_143 ws_X1_lowest hX (by decide) (As := [.long (z_Y D (z_R G 414 r2) (((z_I D 411 r2) - (1 : Int32))).toNatClampNeg)]) rfl rfl (Nat.le_of_ble_eq_true rfl) (e_X1_lowest he23) dX9_chooseImage_66 ?_
        refine v_lstore o [(5, .long r24), (4, .int (z_U D (z_R G 413 r2) (((z_I D 411 r2) - (1 : Int32))).toNatClampNeg)), (3, .int (z_U D (z_R G 412 r2) (((z_I D 411 r2) - (1 : Int32))).toNatClampNeg)), (2, .int ((z_I D 411 r2) - (1 : Int32))), (1, .ref (z_w q r2)), (0, .ref (z_w q a0))] dX9_chooseImage_69 (by decide) rfl ?_
        refine v_aload_n o dX9_chooseImage_71 rfl 5 rfl ?_
        refine gt_9_2 o hK0 ln_2_234 (by rw [n13]; decide) dX9_chooseImage_72 ?_
        refine v_iload_n o dX9_chooseImage_75 rfl 2 rfl ?_
        refine v_iload o dX9_chooseImage_76 1 rfl ?_
        refine v_lload o dX9_chooseImage_78 0 rfl ?_
        obtain ⟨r26, he25, h⟩ := z_bind h
        refine v_callV o yw_X8_stages ln_4_144 wi_X8_stages ws_X8_stages hX (by decide) 8 rfl n13 (As := [.int (z_U D (z_R G 412 r2) (((z_I D 411 r2) - (1 : Int32))).toNatClampNeg), .int (z_U D (z_R G 413 r2) (((z_I D 411 r2) - (1 : Int32))).toNatClampNeg), .long r24]) rfl rfl (Nat.le_of_ble_eq_true rfl) (e_X8_stages n13 he25) dX9_chooseImage_80 ?_
        refine v_istore o [(7, .int r26), (5, .long r24), (4, .int (z_U D (z_R G 413 r2) (((z_I D 411 r2) - (1 : Int32))).toNatClampNeg)), (3, .int (z_U D (z_R G 412 r2) (((z_I D 411 r2) - (1 : Int32))).toNatClampNeg)), (2, .int ((z_I D 411 r2) - (1 : Int32))), (1, .ref (z_w q r2)), (0, .ref (z_w q a0))] dX9_chooseImage_83 (by decide) rfl ?_
        refine v_iload o dX9_chooseImage_85 0 rfl ?_
        refine v_if_eq o 107 dX9_chooseImage_87 (by decide) (fun c27 => ?_) (fun c27 => ?_)
        · replace h := z_ip c27 h
          refine v_sub [6, 3, 2, 1, 0] rfl ?_
          exact tj_X9_chooseImage_107 o hX hK0 h
        · replace h := z_in c27 h
          refine v_aload_n o dX9_chooseImage_90 rfl 6 rfl ?_
          refine gt_9_2 o hK0 ln_2_234 (by rw [n13]; decide) dX9_chooseImage_91 ?_
          refine gt_8_10 o n13 ln_2_101 dX9_chooseImage_94 ?_
          refine v_iconst o (2 : Int32) dX9_chooseImage_97 (by decide) ?_
          refine v_icmp_ne o 107 dX9_chooseImage_98 (by decide) (fun c46 => ?_) (fun c46 => ?_)
          · replace h := z_in c46 h
            refine v_sub [6, 3, 2, 1, 0] rfl ?_
            exact tj_X9_chooseImage_107 o hX hK0 h
          · replace h := z_ip c46 h
            refine v_aload_n o dX9_chooseImage_101 rfl 6 rfl ?_
            obtain ⟨D48, he47, h⟩ := z_bind h
            refine v_callV o yw_X9_giveUp ln_4_28 wi_X9_giveUp ws_X9_giveUp hX (by decide) 9 rfl hK0 (As := []) rfl rfl (Nat.le_of_ble_eq_true rfl) (e_X9_giveUp hK0 he47) dX9_chooseImage_102 ?_
            refine v_iconst o (0 : Int32) dX9_chooseImage_105 (by decide) ?_
            obtain ⟨hr, hs⟩ := Prod.mk.inj (z_some h)
            subst hr
            subst hs
            exact v_ireturn o dX9_chooseImage_106
      · replace h := z_in c14 h
        refine v_aload_n o dX9_chooseImage_38 rfl 2 rfl ?_
        refine v_bipush o (9 : Int32) dX9_chooseImage_39 (by decide) ?_
        obtain ⟨p50, he49, h⟩ := z_bind h
        refine v_callV o yw_X9_fail ln_4_24 wi_X9_fail ws_X9_fail hX (by decide) 9 rfl hK0 (As := [.int (9 : Int32)]) rfl rfl (Nat.le_of_ble_eq_true rfl) (e_X9_fail hK0 he49) dX9_chooseImage_41 ?_
        obtain ⟨hr, hs⟩ := Prod.mk.inj (z_some h)
        subst hr
        subst hs
        exact v_ireturn o dX9_chooseImage_44
theorem e_X9_chooseImage {q : z_Q} {l : Launch} {G : z_G} {D : z_D} {a0 : Nat} {r : Int32} {D1 : z_D} (hK0 : z_K G a0 = 109) (h : f_X9_chooseImage G D a0 = some (r, D1)) : z_E q l yX9_chooseImage cX9_chooseImage 8 (some .int) 4 0 0 [.ref (z_w q a0)] G D (some (.int r)) G D1 :=
  z_E.of (by decide) (Nat.le_of_ble_eq_true rfl) (fun X hX _ o => b_X9_chooseImage o hX hK0 h)
def p_X9_takePaper_48 (q : z_Q) (X : z_X) (Q : State → Prop) (G : z_G) (a0 : Nat) : (z_D × Nat × Int32) → Prop := (fun v => z_V q X 6 Q 0 0 G v.1 48 [(0, .ref (z_w q a0)), (3, .ref (z_w q v.2.1)), (4, .int v.2.2)] [])
def x_X9_takePaper_48 (q : z_Q) (X : z_X) (Q : State → Prop) (G : z_G) (a0 : Nat) : ((z_D × Int32) ⊕ (z_D ⊕ ((z_D × Int32) ⊕ z_D))) → Prop := (Sum.elim (fun v => z_V q X 6 Q 0 0 G v.1 68 [(0, .ref (z_w q a0)), (5, .int v.2)] []) (Sum.elim (fun v => z_V q X 6 Q 0 0 G v 113 [] []) (Sum.elim (fun v => z_V q X 6 Q 0 0 G v.1 133 [(0, .ref (z_w q a0)), (4, .int v.2)] []) (fun v => z_V q X 6 Q 0 0 G v 161 [(0, .ref (z_w q a0))] []))))
def k_X9_takePaper_48 (q : z_Q) (X : z_X) (Q : State → Prop) (G : z_G) (a0 : Nat) : (z_D × Nat × Int32) ⊕ ((z_D × Int32) ⊕ (z_D ⊕ ((z_D × Int32) ⊕ z_D))) → Prop := Sum.elim (p_X9_takePaper_48 q X Q G a0) (x_X9_takePaper_48 q X Q G a0)
def j_X9_takePaper_L48_103 (G : z_G) (D : z_D) (a0 : Nat) (a3 : Nat) (a4 : Int32)  : Option ((z_D × Nat × Int32) ⊕ ((z_D × Int32) ⊕ (z_D ⊕ ((z_D × Int32) ⊕ z_D)))) :=
  z_gK G 101 (z_R G 900 a0) ((f_X1_isDown G D (z_R G 900 a0)).bind (fun r24 => ((if r24 = (0 : Int32) then ((if (3 : Int32) ≤ a4 then ((some (.inl (D, a3, (a4 + (1 : Int32)))))) else ((f_X9_isTrustedAsTold G D a0 (a4 + (1 : Int32))).bind (fun r28 => ((if r28 = (0 : Int32) then (some (.inr (.inr (.inr (.inl (D, a4)))))) else ((f_X9_trustedPaper G D a0 (a4 + (1 : Int32))).bind (fun r31 => ((some (.inl (D, r31, (a4 + (1 : Int32)))))))))))))) else (some (.inr (.inr (.inl D))))))))
set_option maxRecDepth 100000 in
set_option maxHeartbeats 4000000 in
theorem tj_X9_takePaper_L48_103 {q : z_Q} {X : z_X} {G : z_G} {D : z_D} {Q : State → Prop}  {a0 : Nat} {a3 : Nat} {a4 : Int32}  (o : z_O q X cX9_takePaper 6 "FlashTrust$Update" "takePaper" (some .int)) (hX : x_R X = z_rm 5 0 0) (hK0 : z_K G a0 = 109) {ρ : (z_D × Nat × Int32) ⊕ ((z_D × Int32) ⊕ (z_D ⊕ ((z_D × Int32) ⊕ z_D)))} (h : j_X9_takePaper_L48_103 G D a0 a3 a4  = some ρ) (hk : k_X9_takePaper_48 q X Q G a0 ρ) : z_V q X 6 Q 0 0 G D 103 [(0, .ref (z_w q a0)), (3, .ref (z_w q a3)), (4, .int a4)] [] := by
  unfold j_X9_takePaper_L48_103 at h
  refine v_aload_n o dX9_takePaper_103 rfl 0 rfl ?_
  obtain ⟨n22, h⟩ := z_gK_of h
  refine gt_9_0 o hK0 ln_2_232 (by rw [n22]; decide) dX9_takePaper_104 ?_
  obtain ⟨r24, he23, h⟩ := z_bind h
  refine v_callV o yw_X1_isDown ln_4_93 wi_X1_isDown ws_X1_isDown hX (by decide) 1 rfl n22 (As := []) rfl rfl (Nat.le_of_ble_eq_true rfl) (e_X1_isDown n22 he23) dX9_takePaper_107 ?_
  refine v_if_eq o 116 dX9_takePaper_110 (by decide) (fun c25 => ?_) (fun c25 => ?_)
  · replace h := z_ip c25 h
    refine v_iload o dX9_takePaper_116 2 rfl ?_
    refine v_iconst o (3 : Int32) dX9_takePaper_118 (by decide) ?_
    refine v_icmp_ge o 155 dX9_takePaper_119 (by decide) (fun c26 => ?_) (fun c26 => ?_)
    · replace h := z_ip c26 h
      refine v_iinc o (a4 + (1 : Int32)) [(4, .int (a4 + (1 : Int32))), (0, .ref (z_w q a0)), (3, .ref (z_w q a3))] dX9_takePaper_155 2 rfl rfl (by decide) rfl ?_
      refine v_goto o 48 dX9_takePaper_158 (by decide) ?_
      obtain rfl := z_some h
      refine v_sub [1, 2, 0] rfl ?_
      exact hk
    · replace h := z_in c26 h
      refine v_aload_n o dX9_takePaper_122 rfl 0 rfl ?_
      refine v_iload o dX9_takePaper_123 2 rfl ?_
      refine v_iconst o (1 : Int32) dX9_takePaper_125 (by decide) ?_
      refine v_iadd o dX9_takePaper_126 ?_
      obtain ⟨r28, he27, h⟩ := z_bind h
      refine v_callV o yw_X9_isTrustedAsTold ln_4_135 wi_X9_isTrustedAsTold ws_X9_isTrustedAsTold hX (by decide) 9 rfl hK0 (As := [.int (a4 + (1 : Int32))]) rfl rfl (Nat.le_of_ble_eq_true rfl) (e_X9_isTrustedAsTold hK0 he27) dX9_takePaper_127 ?_
      refine v_if_ne o 146 dX9_takePaper_130 (by decide) (fun c29 => ?_) (fun c29 => ?_)
      · replace h := z_in c29 h
        refine v_aload_n o dX9_takePaper_146 rfl 0 rfl ?_
        refine v_iload o dX9_takePaper_147 2 rfl ?_
        refine v_iconst o (1 : Int32) dX9_takePaper_149 (by decide) ?_
        refine v_iadd o dX9_takePaper_150 ?_
        obtain ⟨r31, he30, h⟩ := z_bind h
        refine v_callV o yw_X9_trustedPaper ln_3_208 wi_X9_trustedPaper ws_X9_trustedPaper hX (by decide) 9 rfl hK0 (As := [.int (a4 + (1 : Int32))]) rfl rfl (Nat.le_of_ble_eq_true rfl) (e_X9_trustedPaper hK0 he30) dX9_takePaper_151 ?_
        refine v_astore_n o [(3, .ref (z_w q r31)), (0, .ref (z_w q a0)), (4, .int a4)] dX9_takePaper_154 rfl (by decide) rfl ?_
        refine v_iinc o (a4 + (1 : Int32)) [(4, .int (a4 + (1 : Int32))), (3, .ref (z_w q r31)), (0, .ref (z_w q a0))] dX9_takePaper_155 2 rfl rfl (by decide) rfl ?_
        refine v_goto o 48 dX9_takePaper_158 (by decide) ?_
        obtain rfl := z_some h
        refine v_sub [2, 1, 0] rfl ?_
        exact hk
      · replace h := z_ip c29 h
        obtain rfl := z_some h
        refine v_sub [0, 2] rfl ?_
        exact hk
  · replace h := z_in c25 h
    obtain rfl := z_some h
    refine v_sub [] rfl ?_
    exact hk
def c_X9_takePaper_48 (G : z_G) (D : z_D) (a0 : Nat) (a3 : Nat) (a4 : Int32) : Option ((z_D × Nat × Int32) ⊕ ((z_D × Int32) ⊕ (z_D ⊕ ((z_D × Int32) ⊕ z_D)))) :=
  (if (3 : Int32) < a4 then (some (.inr (.inr (.inr (.inr D))))) else ((f_X9_judge G D a0 a3 a4).bind (fun r13 => ((if r13 = (0 : Int32) then (z_gK G 3 (z_R G 901 a0) (z_gA G 3 (z_R G 901 a0) a4 (z_gK G 106 (z_A G (z_R G 901 a0) (a4).toNatClampNeg) ((f_X6_holdsBodyOf G D (z_A G (z_R G 901 a0) (a4).toNatClampNeg) a3).bind (fun r20 => ((if r20 = (0 : Int32) then (z_gA G 3 (z_R G 901 a0) a4 (z_gK G 104 a3 (z_gK G 105 (z_R G 400 a3) ((f_X6_keep G D (z_A G (z_R G 901 a0) (a4).toNatClampNeg) (z_R G 400 a3)).bind (fun D37 => ((j_X9_takePaper_L48_103 G D37  a0 a3 a4))))))) else (j_X9_takePaper_L48_103 G D  a0 a3 a4)))))))) else (some (.inr (.inl (D, r13)))))))))
set_option maxRecDepth 100000 in
set_option maxHeartbeats 4000000 in
theorem tc_X9_takePaper_48 {q : z_Q} {X : z_X} {G : z_G} {D : z_D} {Q : State → Prop} {a0 : Nat} {a3 : Nat} {a4 : Int32} (o : z_O q X cX9_takePaper 6 "FlashTrust$Update" "takePaper" (some .int)) (hX : x_R X = z_rm 5 0 0) (hK0 : z_K G a0 = 109) {ρ : (z_D × Nat × Int32) ⊕ ((z_D × Int32) ⊕ (z_D ⊕ ((z_D × Int32) ⊕ z_D)))} (h : c_X9_takePaper_48 G D a0 a3 a4 = some ρ) (hk : k_X9_takePaper_48 q X Q G a0 ρ) : z_V q X 6 Q 0 0 G D 48 [(0, .ref (z_w q a0)), (3, .ref (z_w q a3)), (4, .int a4)] [] := by
  unfold c_X9_takePaper_48 at h
  refine v_iload o dX9_takePaper_48 2 rfl ?_
  refine v_iconst o (3 : Int32) dX9_takePaper_50 (by decide) ?_
  refine v_icmp_gt o 161 dX9_takePaper_51 (by decide) (fun c11 => ?_) (fun c11 => ?_)
  · replace h := z_ip c11 h
    obtain rfl := z_some h
    refine v_sub [0] rfl ?_
    exact hk
  · replace h := z_in c11 h
    refine v_aload_n o dX9_takePaper_54 rfl 0 rfl ?_
    refine v_aload_n o dX9_takePaper_55 rfl 1 rfl ?_
    refine v_iload o dX9_takePaper_56 2 rfl ?_
    obtain ⟨r13, he12, h⟩ := z_bind h
    refine v_callV o yw_X9_judge ln_4_121 wi_X9_judge ws_X9_judge hX (by decide) 9 rfl hK0 (As := [.ref (z_w q a3), .int a4]) rfl rfl (Nat.le_of_ble_eq_true rfl) (e_X9_judge hK0 he12) dX9_takePaper_58 ?_
    refine v_istore o [(5, .int r13), (0, .ref (z_w q a0)), (3, .ref (z_w q a3)), (4, .int a4)] dX9_takePaper_61 (by decide) rfl ?_
    refine v_iload o dX9_takePaper_63 0 rfl ?_
    refine v_if_eq o 75 dX9_takePaper_65 (by decide) (fun c14 => ?_) (fun c14 => ?_)
    · replace h := z_ip c14 h
      refine v_aload_n o dX9_takePaper_75 rfl 1 rfl ?_
      obtain ⟨n15, h⟩ := z_gK_of h
      refine gt_9_1 o hK0 ln_2_233 (by rw [n15]; decide) dX9_takePaper_76 ?_
      refine v_iload o dX9_takePaper_79 3 rfl ?_
      obtain ⟨n16, n17, h⟩ := z_gA_of h
      obtain ⟨n18, h⟩ := z_gK_of h
      refine v_aaldK o n16 n17 (by rw [n18]; decide) dX9_takePaper_81 ?_
      refine v_aload_n o dX9_takePaper_82 rfl 2 rfl ?_
      obtain ⟨r20, he19, h⟩ := z_bind h
      refine v_callV o yw_X6_holdsBodyOf ln_4_125 wi_X6_holdsBodyOf ws_X6_holdsBodyOf hX (by decide) 6 rfl n18 (As := [.ref (z_w q a3)]) rfl rfl (Nat.le_of_ble_eq_true rfl) (e_X6_holdsBodyOf n18 he19) dX9_takePaper_83 ?_
      refine v_if_ne o 103 dX9_takePaper_86 (by decide) (fun c21 => ?_) (fun c21 => ?_)
      · replace h := z_in c21 h
        refine v_sub [1, 2, 3] rfl ?_
        exact tj_X9_takePaper_L48_103 o hX hK0 h hk
      · replace h := z_ip c21 h
        refine v_aload_n o dX9_takePaper_89 rfl 1 rfl ?_
        refine gt_9_1 o hK0 ln_2_233 (by rw [n15]; decide) dX9_takePaper_90 ?_
        refine v_iload o dX9_takePaper_93 3 rfl ?_
        obtain ⟨n32, n33, h⟩ := z_gA_of h
        refine v_aaldK o n32 n33 (by rw [n18]; decide) dX9_takePaper_95 ?_
        refine v_aload_n o dX9_takePaper_96 rfl 2 rfl ?_
        obtain ⟨n34, h⟩ := z_gK_of h
        obtain ⟨n35, h⟩ := z_gK_of h
        refine gt_4_0 o n34 ln_1_183 (by rw [n35]; decide) dX9_takePaper_97 ?_
        obtain ⟨D37, he36, h⟩ := z_bind h
        refine v_callV o yw_X6_keep ln_4_45 wi_X6_keep ws_X6_keep hX (by decide) 6 rfl n18 (As := [.ref (z_w q (z_R G 400 a3))]) rfl rfl (Nat.le_of_ble_eq_true rfl) (e_X6_keep n18 he36) dX9_takePaper_100 ?_
        refine v_sub [1, 2, 3] rfl ?_
        exact tj_X9_takePaper_L48_103 o hX hK0 h hk
    · replace h := z_in c14 h
      obtain rfl := z_some h
      refine v_sub [1, 0] rfl ?_
      exact hk
def f_X9_takePaper (G : z_G) (D : z_D) (a0 : Nat) (a1 : Nat) : Option (Int32 × z_D) :=
  z_gK G 104 (z_R G 904 a0) (z_gK G 105 a1 ((f_X5_size G D a1).bind (fun r4 => ((f_X4_read G D (z_R G 904 a0) a1 (0 : Int32) r4).bind (fun p6 => ((if p6.1 = (0 : Int32) then ((f_X9_fail G p6.2 a0 (1 : Int32)).bind (fun p9 => ((some (p9.1, p9.2))))) else ((if (z_I p6.2 401 (z_R G 904 a0)) = ((z_I D 906 a0) - (1 : Int32)) then (((z_loop (fun v => c_X9_takePaper_48 G v.1 a0 v.2.1 v.2.2) 4000 (p6.2, (z_R G 904 a0), ((z_I D 906 a0) - (1 : Int32)))).bind (Sum.elim (fun e38 => (f_X9_fail G e38.1 a0 e38.2).bind (fun p41 => ((some (p41.1, p41.2))))) (Sum.elim (fun e38 => (some ((-3 : Int32), e38))) (Sum.elim (fun e38 => (some ((z_I (z_sI e38.1 906 a0 (e38.2 + (2 : Int32))) 906 a0), (z_sI e38.1 906 a0 (e38.2 + (2 : Int32)))))) (fun e38 => (f_X9_chooseImage G e38 a0).bind (fun p43 => ((some (p43.1, p43.2)))))))))) else ((f_X9_fail G p6.2 a0 (1 : Int32)).bind (fun p45 => ((some (p45.1, p45.2))))))))))))))
set_option maxRecDepth 100000 in
set_option maxHeartbeats 4000000 in
theorem b_X9_takePaper {q : z_Q} {X : z_X} {G : z_G} {D : z_D} {a0 : Nat} {a1 : Nat} {r : Int32} {D1 : z_D} (o : z_O q X cX9_takePaper 6 "FlashTrust$Update" "takePaper" (some .int)) (hX : x_R X = z_rm 5 0 0) (hK0 : z_K G a0 = 109) (h : f_X9_takePaper G D a0 a1 = some (r, D1)) : z_V q X 6 (z_F q X (some (.int r)) G D1 0 0) 0 0 G D 0 [(0, .ref (z_w q a0)), (1, .ref (z_w q a1))] [] := by
  unfold f_X9_takePaper at h
  refine v_aload_n o dX9_takePaper_0 rfl 0 rfl ?_
  refine gt_9_6 o hK0 ln_2_238 dX9_takePaper_1 ?_
  refine v_iconst o (1 : Int32) dX9_takePaper_4 (by decide) ?_
  refine v_isub o dX9_takePaper_5 ?_
  refine v_istore_n o [(2, .int ((z_I D 906 a0) - (1 : Int32))), (0, .ref (z_w q a0)), (1, .ref (z_w q a1))] dX9_takePaper_6 rfl (by decide) rfl ?_
  refine v_aload_n o dX9_takePaper_7 rfl 1 rfl ?_
  obtain ⟨n1, h⟩ := z_gK_of h
  refine gt_9_4 o hK0 ln_2_236 (by rw [n1]; decide) dX9_takePaper_8 ?_
  refine v_aload_n o dX9_takePaper_11 rfl 2 rfl ?_
  refine v_iconst o (0 : Int32) dX9_takePaper_12 (by decide) ?_
  refine v_aload_n o dX9_takePaper_13 rfl 2 rfl ?_
  obtain ⟨n2, h⟩ := z_gK_of h
  obtain ⟨r4, he3, h⟩ := z_bind h
  refine v_callV o yw_X5_size ln_3_229 wi_X5_size ws_X5_size hX (by decide) 5 rfl n2 (As := []) rfl rfl (Nat.le_of_ble_eq_true rfl) (e_X5_size n2 he3) dX9_takePaper_14 ?_
  obtain ⟨p6, he5, h⟩ := z_bind h
  refine v_callV o yw_X4_read ln_3_230 wi_X4_read ws_X4_read hX (by decide) 4 rfl n1 (As := [.ref (z_w q a1), .int (0 : Int32), .int r4]) rfl rfl (Nat.le_of_ble_eq_true rfl) (e_X4_read n1 he5) dX9_takePaper_17 ?_
  refine v_if_eq o 34 dX9_takePaper_20 (by decide) (fun c7 => ?_) (fun c7 => ?_)
  · replace h := z_ip c7 h
    refine v_aload_n o dX9_takePaper_34 rfl 1 rfl ?_
    refine v_iconst o (1 : Int32) dX9_takePaper_35 (by decide) ?_
    obtain ⟨p9, he8, h⟩ := z_bind h
    refine v_callV o yw_X9_fail ln_4_24 wi_X9_fail ws_X9_fail hX (by decide) 9 rfl hK0 (As := [.int (1 : Int32)]) rfl rfl (Nat.le_of_ble_eq_true rfl) (e_X9_fail hK0 he8) dX9_takePaper_36 ?_
    obtain ⟨hr, hs⟩ := Prod.mk.inj (z_some h)
    subst hr
    subst hs
    exact v_ireturn o dX9_takePaper_39
  · replace h := z_in c7 h
    refine v_aload_n o dX9_takePaper_23 rfl 1 rfl ?_
    refine gt_9_4 o hK0 ln_2_236 (by rw [n1]; decide) dX9_takePaper_24 ?_
    refine gt_4_1 o n1 ln_1_186 dX9_takePaper_27 ?_
    refine v_iload_n o dX9_takePaper_30 rfl 0 rfl ?_
    refine v_icmp_eq o 40 dX9_takePaper_31 (by decide) (fun c10 => ?_) (fun c10 => ?_)
    · replace h := z_ip c10 h
      refine v_aload_n o dX9_takePaper_40 rfl 1 rfl ?_
      refine gt_9_4 o hK0 ln_2_236 (by rw [n1]; decide) dX9_takePaper_41 ?_
      refine v_astore_n o [(3, .ref (z_w q (z_R G 904 a0))), (2, .int ((z_I D 906 a0) - (1 : Int32))), (0, .ref (z_w q a0)), (1, .ref (z_w q a1))] dX9_takePaper_44 rfl (by decide) rfl ?_
      refine v_iload_n o dX9_takePaper_45 rfl 1 rfl ?_
      refine v_istore o [(4, .int ((z_I D 906 a0) - (1 : Int32))), (3, .ref (z_w q (z_R G 904 a0))), (2, .int ((z_I D 906 a0) - (1 : Int32))), (0, .ref (z_w q a0)), (1, .ref (z_w q a1))] dX9_takePaper_46 (by decide) rfl ?_
      refine v_sub [3, 1, 0] rfl ?_
      obtain ⟨e38, he39, h⟩ := z_bind h
      refine z_loopV (P := p_X9_takePaper_48 q X _ G a0) (E := x_X9_takePaper_48 q X _ G a0) (fun v ρ hb hk => tc_X9_takePaper_48 (D := v.1) (a0 := a0) (a3 := v.2.1) (a4 := v.2.2) o hX hK0 hb hk) 4000 _ e38 he39 ?_
      rcases e38 with e38 | e38
      · replace h := z_el h
        show z_V q X 6 _ _ _ G e38.1 68 [(0, .ref (z_w q a0)), (5, .int e38.2)] []
        refine v_aload_n o dX9_takePaper_68 rfl 0 rfl ?_
        refine v_iload o dX9_takePaper_69 1 rfl ?_
        obtain ⟨p41, he40, h⟩ := z_bind h
        refine v_callV o yw_X9_fail ln_4_24 wi_X9_fail ws_X9_fail hX (by decide) 9 rfl hK0 (As := [.int e38.2]) rfl rfl (Nat.le_of_ble_eq_true rfl) (e_X9_fail hK0 he40) dX9_takePaper_71 ?_
        obtain ⟨hr, hs⟩ := Prod.mk.inj (z_some h)
        subst hr
        subst hs
        exact v_ireturn o dX9_takePaper_74
      · replace h := z_er h
        rcases e38 with e38 | e38
        · replace h := z_el h
          show z_V q X 6 _ _ _ G e38 113 [] []
          refine v_bipush o (-3 : Int32) dX9_takePaper_113 (by decide) ?_
          obtain ⟨hr, hs⟩ := Prod.mk.inj (z_some h)
          subst hr
          subst hs
          exact v_ireturn o dX9_takePaper_115
        · replace h := z_er h
          rcases e38 with e38 | e38
          · replace h := z_el h
            show z_V q X 6 _ _ _ G e38.1 133 [(0, .ref (z_w q a0)), (4, .int e38.2)] []
            refine v_aload_n o dX9_takePaper_133 rfl 0 rfl ?_
            refine v_iload o dX9_takePaper_134 1 rfl ?_
            refine v_iconst o (2 : Int32) dX9_takePaper_136 (by decide) ?_
            refine v_iadd o dX9_takePaper_137 ?_
            refine pt_9_6 o hK0 ln_2_238 dX9_takePaper_138 ?_
            refine v_aload_n o dX9_takePaper_141 rfl 0 rfl ?_
            refine gt_9_6 o hK0 ln_2_238 dX9_takePaper_142 ?_
            obtain ⟨hr, hs⟩ := Prod.mk.inj (z_some h)
            subst hr
            subst hs
            exact v_ireturn o dX9_takePaper_145
          · replace h := z_er h
            show z_V q X 6 _ _ _ G e38 161 [(0, .ref (z_w q a0))] []
            refine v_aload_n o dX9_takePaper_161 rfl 0 rfl ?_
            obtain ⟨p43, he42, h⟩ := z_bind h
            refine v_callV o yw_X9_chooseImage ln_4_139 wi_X9_chooseImage ws_X9_chooseImage hX (by decide) 9 rfl hK0 (As := []) rfl rfl (Nat.le_of_ble_eq_true rfl) (e_X9_chooseImage hK0 he42) dX9_takePaper_162 ?_
            obtain ⟨hr, hs⟩ := Prod.mk.inj (z_some h)
            subst hr
            subst hs
            exact v_ireturn o dX9_takePaper_165
    · replace h := z_in c10 h
      refine v_aload_n o dX9_takePaper_34 rfl 1 rfl ?_
      refine v_iconst o (1 : Int32) dX9_takePaper_35 (by decide) ?_
      obtain ⟨p45, he44, h⟩ := z_bind h
      refine v_callV o yw_X9_fail ln_4_24 wi_X9_fail ws_X9_fail hX (by decide) 9 rfl hK0 (As := [.int (1 : Int32)]) rfl rfl (Nat.le_of_ble_eq_true rfl) (e_X9_fail hK0 he44) dX9_takePaper_36 ?_
      obtain ⟨hr, hs⟩ := Prod.mk.inj (z_some h)
      subst hr
      subst hs
      exact v_ireturn o dX9_takePaper_39
theorem e_X9_takePaper {q : z_Q} {l : Launch} {G : z_G} {D : z_D} {a0 : Nat} {a1 : Nat} {r : Int32} {D1 : z_D} (hK0 : z_K G a0 = 109) (h : f_X9_takePaper G D a0 a1 = some (r, D1)) : z_E q l yX9_takePaper cX9_takePaper 6 (some .int) 5 0 0 [.ref (z_w q a0), .ref (z_w q a1)] G D (some (.int r)) G D1 :=
  z_E.of (by decide) (Nat.le_of_ble_eq_true rfl) (fun X hX _ o => b_X9_takePaper o hX hK0 h)
def j_X9_finishProgram_60 (G : z_G) (D : z_D) (a0 : Nat) (a1 : Int32)  : Option (Int32 × z_D) :=
  z_gK G 108 (z_R G 902 a0) ((f_X8_store G D (z_R G 902 a0)).bind (fun D14 => (z_gK G 101 (z_R G 900 a0) ((f_X1_isDown G D14 (z_R G 900 a0)).bind (fun r17 => ((if r17 = (0 : Int32) then ((if a1 = (0 : Int32) then ((f_X9_fail G D14 a0 (8 : Int32)).bind (fun p23 => ((some (p23.1, p23.2))))) else ((f_X9_giveUp G D14 a0).bind (fun D21 => ((some ((0 : Int32), D21))))))) else ((some ((-3 : Int32), D14))))))))))
set_option maxRecDepth 100000 in
set_option maxHeartbeats 4000000 in
theorem tj_X9_finishProgram_60 {q : z_Q} {X : z_X} {G : z_G} {D : z_D} {a0 : Nat} {a1 : Int32}  {r : Int32} {D1 : z_D} (o : z_O q X cX9_finishProgram 2 "FlashTrust$Update" "finishProgram" (some .int)) (hX : x_R X = z_rm 4 0 0) (hK0 : z_K G a0 = 109) (h : j_X9_finishProgram_60 G D a0 a1  = some (r, D1)) : z_V q X 2 (z_F q X (some (.int r)) G D1 0 0) 0 0 G D 60 [(0, .ref (z_w q a0)), (1, .int a1)] [] := by
  unfold j_X9_finishProgram_60 at h
  refine v_aload_n o dX9_finishProgram_60 rfl 0 rfl ?_
  obtain ⟨n12, h⟩ := z_gK_of h
  refine gt_9_2 o hK0 ln_2_234 (by rw [n12]; decide) dX9_finishProgram_61 ?_
  obtain ⟨D14, he13, h⟩ := z_bind h
  refine v_callV o yw_X8_store ln_4_103 wi_X8_store ws_X8_store hX (by decide) 8 rfl n12 (As := []) rfl rfl (Nat.le_of_ble_eq_true rfl) (e_X8_store n12 he13) dX9_finishProgram_64 ?_
  refine v_aload_n o dX9_finishProgram_67 rfl 0 rfl ?_
  obtain ⟨n15, h⟩ := z_gK_of h
  refine gt_9_0 o hK0 ln_2_232 (by rw [n15]; decide) dX9_finishProgram_68 ?_
  obtain ⟨r17, he16, h⟩ := z_bind h
  refine v_callV o yw_X1_isDown ln_4_93 wi_X1_isDown ws_X1_isDown hX (by decide) 1 rfl n15 (As := []) rfl rfl (Nat.le_of_ble_eq_true rfl) (e_X1_isDown n15 he16) dX9_finishProgram_71 ?_
  refine v_if_eq o 80 dX9_finishProgram_74 (by decide) (fun c18 => ?_) (fun c18 => ?_)
  · replace h := z_ip c18 h
    refine v_iload_n o dX9_finishProgram_80 rfl 1 rfl ?_
    refine v_if_ne o 91 dX9_finishProgram_81 (by decide) (fun c19 => ?_) (fun c19 => ?_)
    · replace h := z_in c19 h
      refine v_aload_n o dX9_finishProgram_91 rfl 0 rfl ?_
      obtain ⟨D21, he20, h⟩ := z_bind h
      refine v_callV o yw_X9_giveUp ln_4_28 wi_X9_giveUp ws_X9_giveUp hX (by decide) 9 rfl hK0 (As := []) rfl rfl (Nat.le_of_ble_eq_true rfl) (e_X9_giveUp hK0 he20) dX9_finishProgram_92 ?_
      refine v_iconst o (0 : Int32) dX9_finishProgram_95 (by decide) ?_
      obtain ⟨hr, hs⟩ := Prod.mk.inj (z_some h)
      subst hr
      subst hs
      exact v_ireturn o dX9_finishProgram_96
    · replace h := z_ip c19 h
      refine v_aload_n o dX9_finishProgram_84 rfl 0 rfl ?_
      refine v_bipush o (8 : Int32) dX9_finishProgram_85 (by decide) ?_
      obtain ⟨p23, he22, h⟩ := z_bind h
      refine v_callV o yw_X9_fail ln_4_24 wi_X9_fail ws_X9_fail hX (by decide) 9 rfl hK0 (As := [.int (8 : Int32)]) rfl rfl (Nat.le_of_ble_eq_true rfl) (e_X9_fail hK0 he22) dX9_finishProgram_87 ?_
      obtain ⟨hr, hs⟩ := Prod.mk.inj (z_some h)
      subst hr
      subst hs
      exact v_ireturn o dX9_finishProgram_90
  · replace h := z_in c18 h
    refine v_bipush o (-3 : Int32) dX9_finishProgram_77 (by decide) ?_
    obtain ⟨hr, hs⟩ := Prod.mk.inj (z_some h)
    subst hr
    subst hs
    exact v_ireturn o dX9_finishProgram_79
def j_X9_finishProgram_37 (G : z_G) (D : z_D) (a0 : Nat) (s0 : Int32) : Option (Int32 × z_D) :=
  (if s0 = (0 : Int32) then (z_gK G 108 (z_R G 902 a0) ((f_X8_stageNothing G D (z_R G 902 a0)).bind (fun D11 => ((j_X9_finishProgram_60 G D11  a0 s0))))) else (z_gK G 108 (z_R G 902 a0) ((j_X9_finishProgram_60 G (z_sI D 810 (z_R G 902 a0) (2 : Int32))  a0 s0))))
set_option maxRecDepth 100000 in
set_option maxHeartbeats 4000000 in
theorem tj_X9_finishProgram_37 {q : z_Q} {X : z_X} {G : z_G} {D : z_D} {a0 : Nat} {s0 : Int32} {r : Int32} {D1 : z_D} (o : z_O q X cX9_finishProgram 2 "FlashTrust$Update" "finishProgram" (some .int)) (hX : x_R X = z_rm 4 0 0) (hK0 : z_K G a0 = 109) (h : j_X9_finishProgram_37 G D a0 s0 = some (r, D1)) : z_V q X 2 (z_F q X (some (.int r)) G D1 0 0) 0 0 G D 37 [(0, .ref (z_w q a0))] [.int s0] := by
  unfold j_X9_finishProgram_37 at h
  refine v_istore_n o [(1, .int s0), (0, .ref (z_w q a0))] dX9_finishProgram_37 rfl (by decide) rfl ?_
  refine v_iload_n o dX9_finishProgram_38 rfl 0 rfl ?_
  refine v_if_eq o 53 dX9_finishProgram_39 (by decide) (fun c8 => ?_) (fun c8 => ?_)
  · replace h := z_ip c8 h
    refine v_aload_n o dX9_finishProgram_53 rfl 1 rfl ?_
    obtain ⟨n9, h⟩ := z_gK_of h
    refine gt_9_2 o hK0 ln_2_234 (by rw [n9]; decide) dX9_finishProgram_54 ?_
    obtain ⟨D11, he10, h⟩ := z_bind h
    refine v_callV o yw_X8_stageNothing ln_4_99 wi_X8_stageNothing ws_X8_stageNothing hX (by decide) 8 rfl n9 (As := []) rfl rfl (Nat.le_of_ble_eq_true rfl) (e_X8_stageNothing n9 he10) dX9_finishProgram_57 ?_
    refine v_sub [1, 0] rfl ?_
    exact tj_X9_finishProgram_60 o hX hK0 h
  · replace h := z_in c8 h
    refine v_aload_n o dX9_finishProgram_42 rfl 1 rfl ?_
    obtain ⟨n24, h⟩ := z_gK_of h
    refine gt_9_2 o hK0 ln_2_234 (by rw [n24]; decide) dX9_finishProgram_43 ?_
    refine v_iconst o (2 : Int32) dX9_finishProgram_46 (by decide) ?_
    refine pt_8_10 o n24 ln_2_101 dX9_finishProgram_47 ?_
    refine v_goto o 60 dX9_finishProgram_50 (by decide) ?_
    refine v_sub [1, 0] rfl ?_
    exact tj_X9_finishProgram_60 o hX hK0 h
def f_X9_finishProgram (G : z_G) (D : z_D) (a0 : Nat) : Option (Int32 × z_D) :=
  z_gK G 101 (z_R G 900 a0) (z_gK G 108 (z_R G 902 a0) ((f_X8_otherSlot G D (z_R G 902 a0)).bind (fun r4 => ((f_X1_programHash G D (z_R G 900 a0) r4 (z_I D 812 (z_R G 902 a0))).bind (fun r6 => ((if (lg_cmp r6 (z_J D 813 (z_R G 902 a0))) = (0 : Int32) then ((j_X9_finishProgram_37 G D  a0 (1 : Int32))) else ((j_X9_finishProgram_37 G D  a0 (0 : Int32))))))))))
set_option maxRecDepth 100000 in
set_option maxHeartbeats 4000000 in
theorem b_X9_finishProgram {q : z_Q} {X : z_X} {G : z_G} {D : z_D} {a0 : Nat} {r : Int32} {D1 : z_D} (o : z_O q X cX9_finishProgram 2 "FlashTrust$Update" "finishProgram" (some .int)) (hX : x_R X = z_rm 4 0 0) (hK0 : z_K G a0 = 109) (h : f_X9_finishProgram G D a0 = some (r, D1)) : z_V q X 2 (z_F q X (some (.int r)) G D1 0 0) 0 0 G D 0 [(0, .ref (z_w q a0))] [] := by
  unfold f_X9_finishProgram at h
  refine v_aload_n o dX9_finishProgram_0 rfl 0 rfl ?_
  obtain ⟨n1, h⟩ := z_gK_of h
  refine gt_9_0 o hK0 ln_2_232 (by rw [n1]; decide) dX9_finishProgram_1 ?_
  refine v_aload_n o dX9_finishProgram_4 rfl 0 rfl ?_
  obtain ⟨n2, h⟩ := z_gK_of h
  refine gt_9_2 o hK0 ln_2_234 (by rw [n2]; decide) dX9_finishProgram_5 ?_
  obtain ⟨r4, he3, h⟩ := z_bind h
  refine v_callV o yw_X8_otherSlot ln_4_87 wi_X8_otherSlot ws_X8_otherSlot hX (by decide) 8 rfl n2 (As := []) rfl rfl (Nat.le_of_ble_eq_true rfl) (e_X8_otherSlot n2 he3) dX9_finishProgram_8 ?_
  refine v_aload_n o dX9_finishProgram_11 rfl 0 rfl ?_
  refine gt_9_2 o hK0 ln_2_234 (by rw [n2]; decide) dX9_finishProgram_12 ?_
  refine gt_8_12 o n2 ln_2_107 dX9_finishProgram_15 ?_
  obtain ⟨r6, he5, h⟩ := z_bind h
  refine v_callV o yw_X1_programHash ln_4_98 wi_X1_programHash ws_X1_programHash hX (by decide) 1 rfl n1 (As := [.int r4, .int (z_I D 812 (z_R G 902 a0))]) rfl rfl (Nat.le_of_ble_eq_true rfl) (e_X1_programHash n1 he5) dX9_finishProgram_18 ?_
  refine v_aload_n o dX9_finishProgram_21 rfl 0 rfl ?_
  refine gt_9_2 o hK0 ln_2_234 (by rw [n2]; decide) dX9_finishProgram_22 ?_
  refine gt_8_13 o n2 ln_2_110 dX9_finishProgram_25 ?_
  refine v_lcmp o dX9_finishProgram_28 ?_
  refine v_if_ne o 36 dX9_finishProgram_29 (by decide) (fun c7 => ?_) (fun c7 => ?_)
  · replace h := z_in c7 h
    refine v_iconst o (0 : Int32) dX9_finishProgram_36 (by decide) ?_
    exact tj_X9_finishProgram_37 o hX hK0 h
  · replace h := z_ip c7 h
    refine v_iconst o (1 : Int32) dX9_finishProgram_32 (by decide) ?_
    refine v_goto o 37 dX9_finishProgram_33 (by decide) ?_
    exact tj_X9_finishProgram_37 o hX hK0 h
theorem e_X9_finishProgram {q : z_Q} {l : Launch} {G : z_G} {D : z_D} {a0 : Nat} {r : Int32} {D1 : z_D} (hK0 : z_K G a0 = 109) (h : f_X9_finishProgram G D a0 = some (r, D1)) : z_E q l yX9_finishProgram cX9_finishProgram 2 (some .int) 4 0 0 [.ref (z_w q a0)] G D (some (.int r)) G D1 :=
  z_E.of (by decide) (Nat.le_of_ble_eq_true rfl) (fun X hX _ o => b_X9_finishProgram o hX hK0 h)
def f_X9_takePiece (G : z_G) (D : z_D) (a0 : Nat) (a1 : Nat) : Option (Int32 × z_D) :=
  z_gK G 108 (z_R G 902 a0) (z_gK G 105 a1 ((f_X5_size G D a1).bind (fun r4 => ((if r4 = (if (64 : Int32) < ((z_I D 812 (z_R G 902 a0)) - ((z_I D 907 a0) * (64 : Int32))) then (64 : Int32) else ((z_I D 812 (z_R G 902 a0)) - ((z_I D 907 a0) * (64 : Int32)))) then (z_gK G 101 (z_R G 900 a0) ((f_X8_otherSlot G D (z_R G 902 a0)).bind (fun r8 => ((f_X1_slotStart G D r8).bind (fun r10 => ((f_X1_writeAll G D (z_R G 900 a0) ((r10 + ((z_I D 907 a0) * (64 : Int32))) / (32 : Int32)) a1).bind (fun D12 => ((f_X1_isDown G D12 (z_R G 900 a0)).bind (fun r14 => ((if r14 = (0 : Int32) then ((if ((z_I D 812 (z_R G 902 a0)) - ((z_I D 907 a0) * (64 : Int32))) ≤ (64 : Int32) then ((f_X9_finishProgram G D12 a0).bind (fun p18 => ((some (p18.1, p18.2))))) else ((some ((z_I (z_sI D12 907 a0 ((z_I D12 907 a0) + (1 : Int32))) 906 a0), (z_sI D12 907 a0 ((z_I D12 907 a0) + (1 : Int32)))))))) else ((some ((-3 : Int32), D12)))))))))))))) else ((f_X9_fail G D a0 (7 : Int32)).bind (fun p20 => ((some (p20.1, p20.2))))))))))
set_option maxRecDepth 100000 in
set_option maxHeartbeats 4000000 in
theorem b_X9_takePiece {q : z_Q} {X : z_X} {G : z_G} {D : z_D} {a0 : Nat} {a1 : Nat} {r : Int32} {D1 : z_D} (o : z_O q X cX9_takePiece 4 "FlashTrust$Update" "takePiece" (some .int)) (hX : x_R X = z_rm 5 0 0) (hK0 : z_K G a0 = 109) (h : f_X9_takePiece G D a0 a1 = some (r, D1)) : z_V q X 4 (z_F q X (some (.int r)) G D1 0 0) 0 0 G D 0 [(0, .ref (z_w q a0)), (1, .ref (z_w q a1))] [] := by
  unfold f_X9_takePiece at h
  refine v_aload_n o dX9_takePiece_0 rfl 0 rfl ?_
  refine gt_9_7 o hK0 ln_3_0 dX9_takePiece_1 ?_
  refine v_bipush o (64 : Int32) dX9_takePiece_4 (by decide) ?_
  refine v_imul o dX9_takePiece_6 ?_
  refine v_istore_n o [(2, .int ((z_I D 907 a0) * (64 : Int32))), (0, .ref (z_w q a0)), (1, .ref (z_w q a1))] dX9_takePiece_7 rfl (by decide) rfl ?_
  refine v_aload_n o dX9_takePiece_8 rfl 1 rfl ?_
  obtain ⟨n1, h⟩ := z_gK_of h
  refine gt_9_2 o hK0 ln_2_234 (by rw [n1]; decide) dX9_takePiece_9 ?_
  refine gt_8_12 o n1 ln_2_107 dX9_takePiece_12 ?_
  refine v_iload_n o dX9_takePiece_15 rfl 0 rfl ?_
  refine v_isub o dX9_takePiece_16 ?_
  refine v_istore_n o [(3, .int ((z_I D 812 (z_R G 902 a0)) - ((z_I D 907 a0) * (64 : Int32)))), (2, .int ((z_I D 907 a0) * (64 : Int32))), (0, .ref (z_w q a0)), (1, .ref (z_w q a1))] dX9_takePiece_17 rfl (by decide) rfl ?_
  refine v_aload_n o dX9_takePiece_18 rfl 3 rfl ?_
  obtain ⟨n2, h⟩ := z_gK_of h
  obtain ⟨r4, he3, h⟩ := z_bind h
  refine v_callV o yw_X5_size ln_3_229 wi_X5_size ws_X5_size hX (by decide) 5 rfl n2 (As := []) rfl rfl (Nat.le_of_ble_eq_true rfl) (e_X5_size n2 he3) dX9_takePiece_19 ?_
  refine v_iload_n o dX9_takePiece_22 rfl 0 rfl ?_
  refine v_bipush o (64 : Int32) dX9_takePiece_23 (by decide) ?_
  refine v_mmin o ln_4_86 hX (by decide) (Nat.le_of_ble_eq_true rfl) dX9_takePiece_25 ?_
  refine v_icmp_eq o 38 dX9_takePiece_28 (by decide) (fun c5 => ?_) (fun c5 => ?_)
  · replace h := z_ip c5 h
    refine v_aload_n o dX9_takePiece_38 rfl 2 rfl ?_
    obtain ⟨n6, h⟩ := z_gK_of h
    refine gt_9_0 o hK0 ln_2_232 (by rw [n6]; decide) dX9_takePiece_39 ?_
    refine v_aload_n o dX9_takePiece_42 rfl 2 rfl ?_
    refine gt_9_2 o hK0 ln_2_234 (by rw [n1]; decide) dX9_takePiece_43 ?_
    obtain ⟨r8, he7, h⟩ := z_bind h
    refine v_callV o yw_X8_otherSlot ln_4_87 wi_X8_otherSlot ws_X8_otherSlot hX (by decide) 8 rfl n1 (As := []) rfl rfl (Nat.le_of_ble_eq_true rfl) (e_X8_otherSlot n1 he7) dX9_takePiece_46 ?_
    obtain ⟨r10, he9, h⟩ := z_bind h
    refine v_callS o yw_X1_slotStart ln_4_91 ws_X1_slotStart hX (by decide) (As := [.int r8]) rfl rfl (Nat.le_of_ble_eq_true rfl) (e_X1_slotStart he9) dX9_takePiece_49 ?_
    refine v_iload_n o dX9_takePiece_52 rfl 1 rfl ?_
    refine v_iadd o dX9_takePiece_53 ?_
    refine v_bipush o (32 : Int32) dX9_takePiece_54 (by decide) ?_
    refine v_idiv o dX9_takePiece_56 (by decide) ?_
    refine v_aload_n o dX9_takePiece_57 rfl 3 rfl ?_
    obtain ⟨D12, he11, h⟩ := z_bind h
    refine v_callV o yw_X1_writeAll ln_4_92 wi_X1_writeAll ws_X1_writeAll hX (by decide) 1 rfl n6 (As := [.int ((r10 + ((z_I D 907 a0) * (64 : Int32))) / (32 : Int32)), .ref (z_w q a1)]) rfl rfl (Nat.le_of_ble_eq_true rfl) (e_X1_writeAll n6 he11) dX9_takePiece_58 ?_
    refine v_aload_n o dX9_takePiece_61 rfl 2 rfl ?_
    refine gt_9_0 o hK0 ln_2_232 (by rw [n6]; decide) dX9_takePiece_62 ?_
    obtain ⟨r14, he13, h⟩ := z_bind h
    refine v_callV o yw_X1_isDown ln_4_93 wi_X1_isDown ws_X1_isDown hX (by decide) 1 rfl n6 (As := []) rfl rfl (Nat.le_of_ble_eq_true rfl) (e_X1_isDown n6 he13) dX9_takePiece_65 ?_
    refine v_if_eq o 74 dX9_takePiece_68 (by decide) (fun c15 => ?_) (fun c15 => ?_)
    · replace h := z_ip c15 h
      refine v_iload_n o dX9_takePiece_74 rfl 0 rfl ?_
      refine v_bipush o (64 : Int32) dX9_takePiece_75 (by decide) ?_
      refine v_icmp_le o 95 dX9_takePiece_77 (by decide) (fun c16 => ?_) (fun c16 => ?_)
      · replace h := z_ip c16 h
        refine v_aload_n o dX9_takePiece_95 rfl 2 rfl ?_
        obtain ⟨p18, he17, h⟩ := z_bind h
        refine v_callV o yw_X9_finishProgram ln_4_94 wi_X9_finishProgram ws_X9_finishProgram hX (by decide) 9 rfl hK0 (As := []) rfl rfl (Nat.le_of_ble_eq_true rfl) (e_X9_finishProgram hK0 he17) dX9_takePiece_96 ?_
        obtain ⟨hr, hs⟩ := Prod.mk.inj (z_some h)
        subst hr
        subst hs
        exact v_ireturn o dX9_takePiece_99
      · replace h := z_in c16 h
        refine v_aload_n o dX9_takePiece_80 rfl 2 rfl ?_
        refine v_dup o dX9_takePiece_81 rfl ?_
        refine gt_9_7 o hK0 ln_3_0 dX9_takePiece_82 ?_
        refine v_iconst o (1 : Int32) dX9_takePiece_85 (by decide) ?_
        refine v_iadd o dX9_takePiece_86 ?_
        refine pt_9_7 o hK0 ln_3_0 dX9_takePiece_87 ?_
        refine v_aload_n o dX9_takePiece_90 rfl 2 rfl ?_
        refine gt_9_6 o hK0 ln_2_238 dX9_takePiece_91 ?_
        obtain ⟨hr, hs⟩ := Prod.mk.inj (z_some h)
        subst hr
        subst hs
        exact v_ireturn o dX9_takePiece_94
    · replace h := z_in c15 h
      refine v_bipush o (-3 : Int32) dX9_takePiece_71 (by decide) ?_
      obtain ⟨hr, hs⟩ := Prod.mk.inj (z_some h)
      subst hr
      subst hs
      exact v_ireturn o dX9_takePiece_73
  · replace h := z_in c5 h
    refine v_aload_n o dX9_takePiece_31 rfl 2 rfl ?_
    refine v_bipush o (7 : Int32) dX9_takePiece_32 (by decide) ?_
    obtain ⟨p20, he19, h⟩ := z_bind h
    refine v_callV o yw_X9_fail ln_4_24 wi_X9_fail ws_X9_fail hX (by decide) 9 rfl hK0 (As := [.int (7 : Int32)]) rfl rfl (Nat.le_of_ble_eq_true rfl) (e_X9_fail hK0 he19) dX9_takePiece_34 ?_
    obtain ⟨hr, hs⟩ := Prod.mk.inj (z_some h)
    subst hr
    subst hs
    exact v_ireturn o dX9_takePiece_37
theorem e_X9_takePiece {q : z_Q} {l : Launch} {G : z_G} {D : z_D} {a0 : Nat} {a1 : Nat} {r : Int32} {D1 : z_D} (hK0 : z_K G a0 = 109) (h : f_X9_takePiece G D a0 a1 = some (r, D1)) : z_E q l yX9_takePiece cX9_takePiece 4 (some .int) 5 0 0 [.ref (z_w q a0), .ref (z_w q a1)] G D (some (.int r)) G D1 :=
  z_E.of (by decide) (Nat.le_of_ble_eq_true rfl) (fun X hX _ o => b_X9_takePiece o hX hK0 h)
