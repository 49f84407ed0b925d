def p_X11_hasSigned_6 (q : z_Q) (X : z_X) (Q : State → Prop) (G : z_G) (D : z_D) (a0 : Nat) (a1 : Int32) (a2 : Int64) : (Int32 × Int32) → Prop := (fun v => z_V q X 6 Q 0 0 G D 6 [(0, .ref (z_w q a0)), (1, .int a1), (2, .long a2), (4, .int v.1), (5, .int v.2)] [])
def x_X11_hasSigned_6 (q : z_Q) (X : z_X) (Q : State → Prop) (G : z_G) (D : z_D) (a0 : Nat) (a1 : Int32) (a2 : Int64) : Int32 → Prop := (fun v => z_V q X 6 Q 0 0 G D 56 [(4, .int v)] [])
def k_X11_hasSigned_6 (q : z_Q) (X : z_X) (Q : State → Prop) (G : z_G) (D : z_D) (a0 : Nat) (a1 : Int32) (a2 : Int64) : (Int32 × Int32) ⊕ Int32 → Prop := Sum.elim (p_X11_hasSigned_6 q X Q G D a0 a1 a2) (x_X11_hasSigned_6 q X Q G D a0 a1 a2)
def c_X11_hasSigned_6 (G : z_G) (D : z_D) (a0 : Nat) (a1 : Int32) (a2 : Int64) (a4 : Int32) (a5 : Int32) : Option ((Int32 × Int32) ⊕ Int32) :=
  (if (z_I D 1143 a0) ≤ a5 then (some (.inr a4)) else ((if a4 = (0 : Int32) then (z_gK G 1 (z_R G 1141 a0) (z_gA G 1 (z_R G 1141 a0) a5 ((if (z_U D (z_R G 1141 a0) (a5).toNatClampNeg) = a1 then (z_gK G 2 (z_R G 1142 a0) (z_gA G 2 (z_R G 1142 a0) a5 ((if (lg_cmp (z_Y D (z_R G 1142 a0) (a5).toNatClampNeg) a2) = (0 : Int32) then (((some (.inl ((1 : Int32), (a5 + (1 : Int32))))))) else ((some (.inl ((0 : Int32), (a5 + (1 : Int32)))))))))) else ((some (.inl ((0 : Int32), (a5 + (1 : Int32)))))))))) else (((some (.inl ((1 : Int32), (a5 + (1 : Int32))))))))))
set_option maxRecDepth 100000 in
set_option maxHeartbeats 4000000 in
theorem tc_X11_hasSigned_6 {q : z_Q} {X : z_X} {G : z_G} {D : z_D} {Q : State → Prop} {a0 : Nat} {a1 : Int32} {a2 : Int64} {a4 : Int32} {a5 : Int32} (o : z_O q X cX11_hasSigned 6 "FlashTrustModel" "hasSigned" (some .boolean)) (hX : x_R X = z_rm 0 0 0) (hK0 : z_K G a0 = 111) {ρ : (Int32 × Int32) ⊕ Int32} (h : c_X11_hasSigned_6 G D a0 a1 a2 a4 a5 = some ρ) (hk : k_X11_hasSigned_6 q X Q G D a0 a1 a2 ρ) : z_V q X 6 Q 0 0 G D 6 [(0, .ref (z_w q a0)), (1, .int a1), (2, .long a2), (4, .int a4), (5, .int a5)] [] := by
  unfold c_X11_hasSigned_6 at h
  refine v_iload o dX11_hasSigned_6 4 rfl ?_
  refine v_aload_n o dX11_hasSigned_8 rfl 0 rfl ?_
  refine gt_11_43 o hK0 ln_5_138 dX11_hasSigned_9 ?_
  refine v_icmp_ge o 56 dX11_hasSigned_12 (by decide) (fun c1 => ?_) (fun c1 => ?_)
  · replace h := z_ip c1 h
    obtain rfl := z_some h
    refine v_sub [3] rfl ?_
    exact hk
  · replace h := z_in c1 h
    refine v_iload o dX11_hasSigned_15 3 rfl ?_
    refine v_if_ne o 43 dX11_hasSigned_17 (by decide) (fun c2 => ?_) (fun c2 => ?_)
    · replace h := z_in c2 h
      refine v_iconst o (1 : Int32) dX11_hasSigned_43 (by decide) ?_
      refine v_goto o 48 dX11_hasSigned_44 (by decide) ?_
      refine v_istore o [(4, .int (1 : Int32)), (0, .ref (z_w q a0)), (1, .int a1), (2, .long a2), (5, .int a5)] dX11_hasSigned_48 (by decide) rfl ?_
      refine v_iinc o (a5 + (1 : Int32)) [(5, .int (a5 + (1 : Int32))), (4, .int (1 : Int32)), (0, .ref (z_w q a0)), (1, .int a1), (2, .long a2)] dX11_hasSigned_50 4 rfl rfl (by decide) rfl ?_
      refine v_goto o 6 dX11_hasSigned_53 (by decide) ?_
      obtain rfl := z_some h
      refine v_sub [2, 3, 4, 1, 0] rfl ?_
      exact hk
    · replace h := z_ip c2 h
      refine v_aload_n o dX11_hasSigned_20 rfl 0 rfl ?_
      obtain ⟨n3, h⟩ := z_gK_of h
      refine gt_11_41 o hK0 ln_5_136 (by rw [n3]; decide) dX11_hasSigned_21 ?_
      refine v_iload o dX11_hasSigned_24 4 rfl ?_
      obtain ⟨n4, n5, h⟩ := z_gA_of h
      refine v_iald o n4 n5 dX11_hasSigned_26 ?_
      refine v_iload_n o dX11_hasSigned_27 rfl 1 rfl ?_
      refine v_icmp_ne o 47 dX11_hasSigned_28 (by decide) (fun c6 => ?_) (fun c6 => ?_)
      · replace h := z_in c6 h
        refine v_iconst o (0 : Int32) dX11_hasSigned_47 (by decide) ?_
        refine v_istore o [(4, .int (0 : Int32)), (0, .ref (z_w q a0)), (1, .int a1), (2, .long a2), (5, .int a5)] dX11_hasSigned_48 (by decide) rfl ?_
        refine v_iinc o (a5 + (1 : Int32)) [(5, .int (a5 + (1 : Int32))), (4, .int (0 : Int32)), (0, .ref (z_w q a0)), (1, .int a1), (2, .long a2)] dX11_hasSigned_50 4 rfl rfl (by decide) rfl ?_
        refine v_goto o 6 dX11_hasSigned_53 (by decide) ?_
        obtain rfl := z_some h
        refine v_sub [2, 3, 4, 1, 0] rfl ?_
        exact hk
      · replace h := z_ip c6 h
        refine v_aload_n o dX11_hasSigned_31 rfl 0 rfl ?_
        obtain ⟨n7, h⟩ := z_gK_of h
        refine gt_11_42 o hK0 ln_5_137 (by rw [n7]; decide) dX11_hasSigned_32 ?_
        refine v_iload o dX11_hasSigned_35 4 rfl ?_
        obtain ⟨n8, n9, h⟩ := z_gA_of h
        refine v_lald o n8 n9 dX11_hasSigned_37 ?_
        refine v_lload_n o dX11_hasSigned_38 rfl 2 rfl ?_
        refine v_lcmp o dX11_hasSigned_39 ?_
        refine v_if_ne o 47 dX11_hasSigned_40 (by decide) (fun c10 => ?_) (fun c10 => ?_)
        · replace h := z_in c10 h
          refine v_iconst o (0 : Int32) dX11_hasSigned_47 (by decide) ?_
          refine v_istore o [(4, .int (0 : Int32)), (0, .ref (z_w q a0)), (1, .int a1), (2, .long a2), (5, .int a5)] dX11_hasSigned_48 (by decide) rfl ?_
          refine v_iinc o (a5 + (1 : Int32)) [(5, .int (a5 + (1 : Int32))), (4, .int (0 : Int32)), (0, .ref (z_w q a0)), (1, .int a1), (2, .long a2)] dX11_hasSigned_50 4 rfl rfl (by decide) rfl ?_
          refine v_goto o 6 dX11_hasSigned_53 (by decide) ?_
          obtain rfl := z_some h
          refine v_sub [2, 3, 4, 1, 0] rfl ?_
          exact hk
        · replace h := z_ip c10 h
          refine v_iconst o (1 : Int32) dX11_hasSigned_43 (by decide) ?_
          refine v_goto o 48 dX11_hasSigned_44 (by decide) ?_
          refine v_istore o [(4, .int (1 : Int32)), (0, .ref (z_w q a0)), (1, .int a1), (2, .long a2), (5, .int a5)] dX11_hasSigned_48 (by decide) rfl ?_
          refine v_iinc o (a5 + (1 : Int32)) [(5, .int (a5 + (1 : Int32))), (4, .int (1 : Int32)), (0, .ref (z_w q a0)), (1, .int a1), (2, .long a2)] dX11_hasSigned_50 4 rfl rfl (by decide) rfl ?_
          refine v_goto o 6 dX11_hasSigned_53 (by decide) ?_
          obtain rfl := z_some h
          refine v_sub [2, 3, 4, 1, 0] rfl ?_
          exact hk
def f_X11_hasSigned (G : z_G) (D : z_D) (a0 : Nat) (a1 : Int32) (a2 : Int64) : Option (Int32) :=
  ((z_loop (fun v => c_X11_hasSigned_6 G D a0 a1 a2 v.1 v.2) 4000 ((0 : Int32), (0 : Int32))).bind (fun e11 => z_gB e11 ((some e11))))
set_option maxRecDepth 100000 in
set_option maxHeartbeats 4000000 in
theorem b_X11_hasSigned {q : z_Q} {X : z_X} {G : z_G} {D : z_D} {a0 : Nat} {a1 : Int32} {a2 : Int64} {r : Int32} (o : z_O q X cX11_hasSigned 6 "FlashTrustModel" "hasSigned" (some .boolean)) (hX : x_R X = z_rm 0 0 0) (hK0 : z_K G a0 = 111) (h : f_X11_hasSigned G D a0 a1 a2 = some r) : z_V q X 6 (z_F q X (some (.int r)) G D 0 0) 0 0 G D 0 [(0, .ref (z_w q a0)), (1, .int a1), (2, .long a2)] [] := by
  unfold f_X11_hasSigned at h
  refine v_iconst o (0 : Int32) dX11_hasSigned_0 (by decide) ?_
  refine v_istore o [(4, .int (0 : Int32)), (0, .ref (z_w q a0)), (1, .int a1), (2, .long a2)] dX11_hasSigned_1 (by decide) rfl ?_
  refine v_iconst o (0 : Int32) dX11_hasSigned_3 (by decide) ?_
  refine v_istore o [(5, .int (0 : Int32)), (4, .int (0 : Int32)), (0, .ref (z_w q a0)), (1, .int a1), (2, .long a2)] dX11_hasSigned_4 (by decide) rfl ?_
  refine v_sub [2, 3, 4, 1, 0] rfl ?_
  obtain ⟨e11, he12, h⟩ := z_bind h
  refine z_loopV (P := p_X11_hasSigned_6 q X _ G D a0 a1 a2) (E := x_X11_hasSigned_6 q X _ G D a0 a1 a2) (fun v ρ hb hk => tc_X11_hasSigned_6 (D := D) (a0 := a0) (a1 := a1) (a2 := a2) (a4 := v.1) (a5 := v.2) o hX hK0 hb hk) 4000 _ e11 he12 ?_
  show z_V q X 6 _ _ _ G D 56 [(4, .int e11)] []
  refine v_iload o dX11_hasSigned_56 0 rfl ?_
  obtain ⟨n13, h⟩ := z_gB_of h
  have hr := z_some h
  subst hr
  exact v_zreturn o (z_nb n13) dX11_hasSigned_58
theorem e_X11_hasSigned {q : z_Q} {l : Launch} {G : z_G} {D : z_D} {a0 : Nat} {a1 : Int32} {a2 : Int64} {r : Int32} (hK0 : z_K G a0 = 111) (h : f_X11_hasSigned G D a0 a1 a2 = some r) : z_E q l yX11_hasSigned cX11_hasSigned 6 (some .boolean) 0 0 0 [.ref (z_w q a0), .int a1, .long a2] G D (some (.int r)) G D :=
  z_E.of (by decide) (Nat.le_of_ble_eq_true rfl) (fun X hX _ o => b_X11_hasSigned o hX hK0 h)
def p_X11_has_11 (q : z_Q) (X : z_X) (Q : State → Prop) (G : z_G) (D : z_D) (a0 : Nat) (a1 : Int32) (a2 : Int32) (a3 : Int64) : (Int32 × Int32) → Prop := (fun v => z_V q X 8 Q 0 0 G D 11 [(0, .ref (z_w q a0)), (1, .int a1), (2, .int a2), (3, .long a3), (5, .int v.1), (6, .int v.2)] [])
def x_X11_has_11 (q : z_Q) (X : z_X) (Q : State → Prop) (G : z_G) (D : z_D) (a0 : Nat) (a1 : Int32) (a2 : Int32) (a3 : Int64) : Int32 → Prop := (fun v => z_V q X 8 Q 0 0 G D 79 [(2, .int a2), (5, .int v)] [])
def k_X11_has_11 (q : z_Q) (X : z_X) (Q : State → Prop) (G : z_G) (D : z_D) (a0 : Nat) (a1 : Int32) (a2 : Int32) (a3 : Int64) : (Int32 × Int32) ⊕ Int32 → Prop := Sum.elim (p_X11_has_11 q X Q G D a0 a1 a2 a3) (x_X11_has_11 q X Q G D a0 a1 a2 a3)
def j_X11_has_L11_46 (G : z_G) (D : z_D) (a0 : Nat) (a1 : Int32) (a2 : Int32) (a3 : Int64) (a5 : Int32) (a6 : Int32) (s0 : Int32) : Option ((Int32 × Int32) ⊕ Int32) :=
  (if s0 = (0 : Int32) then ((some (.inl ((a5 + (0 : Int32)), (a6 + (1 : Int32)))))) else ((f_X11_hasSigned G D a0 a6 a3).bind (fun r7 => ((if r7 = (0 : Int32) then ((some (.inl ((a5 + (0 : Int32)), (a6 + (1 : Int32)))))) else (((some (.inl ((a5 + (1 : Int32)), (a6 + (1 : Int32))))))))))))
set_option maxRecDepth 100000 in
set_option maxHeartbeats 4000000 in
theorem tj_X11_has_L11_46 {q : z_Q} {X : z_X} {G : z_G} {D : z_D} {Q : State → Prop}  {a0 : Nat} {a1 : Int32} {a2 : Int32} {a3 : Int64} {a5 : Int32} {a6 : Int32} {s0 : Int32} (o : z_O q X cX11_has 8 "FlashTrustModel" "has" (some .boolean)) (hX : x_R X = z_rm 2 0 0) (hK0 : z_K G a0 = 111) {ρ : (Int32 × Int32) ⊕ Int32} (h : j_X11_has_L11_46 G D a0 a1 a2 a3 a5 a6 s0 = some ρ) (hk : k_X11_has_11 q X Q G D a0 a1 a2 a3 ρ) : z_V q X 8 Q 0 0 G D 46 [(0, .ref (z_w q a0)), (1, .int a1), (2, .int a2), (3, .long a3), (5, .int a5), (6, .int a6)] [.int s0] := by
  unfold j_X11_has_L11_46 at h
  refine v_istore o [(7, .int s0), (0, .ref (z_w q a0)), (1, .int a1), (2, .int a2), (3, .long a3), (5, .int a5), (6, .int a6)] dX11_has_46 (by decide) rfl ?_
  refine v_iload o dX11_has_48 5 rfl ?_
  refine v_iload o dX11_has_50 0 rfl ?_
  refine v_if_eq o 69 dX11_has_52 (by decide) (fun c5 => ?_) (fun c5 => ?_)
  · replace h := z_ip c5 h
    refine v_iconst o (0 : Int32) dX11_has_69 (by decide) ?_
    refine v_iadd o dX11_has_70 ?_
    refine v_istore o [(5, .int (a5 + (0 : Int32))), (7, .int s0), (0, .ref (z_w q a0)), (1, .int a1), (2, .int a2), (3, .long a3), (6, .int a6)] dX11_has_71 (by decide) rfl ?_
    refine v_iinc o (a6 + (1 : Int32)) [(6, .int (a6 + (1 : Int32))), (5, .int (a5 + (0 : Int32))), (7, .int s0), (0, .ref (z_w q a0)), (1, .int a1), (2, .int a2), (3, .long a3)] dX11_has_73 6 rfl rfl (by decide) rfl ?_
    refine v_goto o 11 dX11_has_76 (by decide) ?_
    obtain rfl := z_some h
    refine v_sub [3, 4, 5, 6, 1, 0] rfl ?_
    exact hk
  · replace h := z_in c5 h
    refine v_aload_n o dX11_has_55 rfl 1 rfl ?_
    refine v_iload o dX11_has_56 6 rfl ?_
    refine v_lload_n o dX11_has_58 rfl 4 rfl ?_
    obtain ⟨r7, he6, h⟩ := z_bind h
    refine v_callV o yw_X11_hasSigned ln_6_195 wi_X11_hasSigned ws_X11_hasSigned hX (by decide) 11 rfl hK0 (As := [.int a6, .long a3]) rfl rfl (Nat.le_of_ble_eq_true rfl) (e_X11_hasSigned hK0 he6) dX11_has_59 ?_
    refine v_if_eq o 69 dX11_has_62 (by decide) (fun c8 => ?_) (fun c8 => ?_)
    · replace h := z_ip c8 h
      refine v_iconst o (0 : Int32) dX11_has_69 (by decide) ?_
      refine v_iadd o dX11_has_70 ?_
      refine v_istore o [(5, .int (a5 + (0 : Int32))), (7, .int s0), (0, .ref (z_w q a0)), (1, .int a1), (2, .int a2), (3, .long a3), (6, .int a6)] dX11_has_71 (by decide) rfl ?_
      refine v_iinc o (a6 + (1 : Int32)) [(6, .int (a6 + (1 : Int32))), (5, .int (a5 + (0 : Int32))), (7, .int s0), (0, .ref (z_w q a0)), (1, .int a1), (2, .int a2), (3, .long a3)] dX11_has_73 6 rfl rfl (by decide) rfl ?_
      refine v_goto o 11 dX11_has_76 (by decide) ?_
      obtain rfl := z_some h
      refine v_sub [3, 4, 5, 6, 1, 0] rfl ?_
      exact hk
    · replace h := z_in c8 h
      refine v_iconst o (1 : Int32) dX11_has_65 (by decide) ?_
      refine v_goto o 70 dX11_has_66 (by decide) ?_
      refine v_iadd o dX11_has_70 ?_
      refine v_istore o [(5, .int (a5 + (1 : Int32))), (7, .int s0), (0, .ref (z_w q a0)), (1, .int a1), (2, .int a2), (3, .long a3), (6, .int a6)] dX11_has_71 (by decide) rfl ?_
      refine v_iinc o (a6 + (1 : Int32)) [(6, .int (a6 + (1 : Int32))), (5, .int (a5 + (1 : Int32))), (7, .int s0), (0, .ref (z_w q a0)), (1, .int a1), (2, .int a2), (3, .long a3)] dX11_has_73 6 rfl rfl (by decide) rfl ?_
      refine v_goto o 11 dX11_has_76 (by decide) ?_
      obtain rfl := z_some h
      refine v_sub [3, 4, 5, 6, 1, 0] rfl ?_
      exact hk
def j_X11_has_L11_45 (G : z_G) (D : z_D) (a0 : Nat) (a1 : Int32) (a2 : Int32) (a3 : Int64) (a5 : Int32) (a6 : Int32)  : Option ((Int32 × Int32) ⊕ Int32) :=
  (j_X11_has_L11_46 G D  a0 a1 a2 a3 a5 a6 (0 : Int32))
set_option maxRecDepth 100000 in
set_option maxHeartbeats 4000000 in
theorem tj_X11_has_L11_45 {q : z_Q} {X : z_X} {G : z_G} {D : z_D} {Q : State → Prop}  {a0 : Nat} {a1 : Int32} {a2 : Int32} {a3 : Int64} {a5 : Int32} {a6 : Int32}  (o : z_O q X cX11_has 8 "FlashTrustModel" "has" (some .boolean)) (hX : x_R X = z_rm 2 0 0) (hK0 : z_K G a0 = 111) {ρ : (Int32 × Int32) ⊕ Int32} (h : j_X11_has_L11_45 G D a0 a1 a2 a3 a5 a6  = some ρ) (hk : k_X11_has_11 q X Q G D a0 a1 a2 a3 ρ) : z_V q X 8 Q 0 0 G D 45 [(0, .ref (z_w q a0)), (1, .int a1), (2, .int a2), (3, .long a3), (5, .int a5), (6, .int a6)] [] := by
  unfold j_X11_has_L11_45 at h
  refine v_iconst o (0 : Int32) dX11_has_45 (by decide) ?_
  exact tj_X11_has_L11_46 o hX hK0 h hk
def c_X11_has_11 (G : z_G) (D : z_D) (a0 : Nat) (a1 : Int32) (a2 : Int32) (a3 : Int64) (a5 : Int32) (a6 : Int32) : Option ((Int32 × Int32) ⊕ Int32) :=
  (if (16 : Int32) ≤ a6 then (some (.inr a5)) else ((if ((a1 >>> (a6 &&& 31)) &&& (1 : Int32)) = (1 : Int32) then ((if (((z_I D 1130 a0) >>> (a6 &&& 31)) &&& (1 : Int32)) = (1 : Int32) then ((j_X11_has_L11_46 G D  a0 a1 a2 a3 a5 a6 (1 : Int32))) else (j_X11_has_L11_45 G D  a0 a1 a2 a3 a5 a6))) else (j_X11_has_L11_45 G D  a0 a1 a2 a3 a5 a6))))
set_option maxRecDepth 100000 in
set_option maxHeartbeats 4000000 in
theorem tc_X11_has_11 {q : z_Q} {X : z_X} {G : z_G} {D : z_D} {Q : State → Prop} {a0 : Nat} {a1 : Int32} {a2 : Int32} {a3 : Int64} {a5 : Int32} {a6 : Int32} (o : z_O q X cX11_has 8 "FlashTrustModel" "has" (some .boolean)) (hX : x_R X = z_rm 2 0 0) (hK0 : z_K G a0 = 111) {ρ : (Int32 × Int32) ⊕ Int32} (h : c_X11_has_11 G D a0 a1 a2 a3 a5 a6 = some ρ) (hk : k_X11_has_11 q X Q G D a0 a1 a2 a3 ρ) : z_V q X 8 Q 0 0 G D 11 [(0, .ref (z_w q a0)), (1, .int a1), (2, .int a2), (3, .long a3), (5, .int a5), (6, .int a6)] [] := by
  unfold c_X11_has_11 at h
  refine v_iload o dX11_has_11 5 rfl ?_
  refine v_bipush o (16 : Int32) dX11_has_13 (by decide) ?_
  refine v_icmp_ge o 79 dX11_has_15 (by decide) (fun c3 => ?_) (fun c3 => ?_)
  · replace h := z_ip c3 h
    obtain rfl := z_some h
    refine v_sub [2, 4] rfl ?_
    exact hk
  · replace h := z_in c3 h
    refine v_iload_n o dX11_has_18 rfl 1 rfl ?_
    refine v_iload o dX11_has_19 5 rfl ?_
    refine v_ishr o dX11_has_21 ?_
    refine v_iconst o (1 : Int32) dX11_has_22 (by decide) ?_
    refine v_iand o dX11_has_23 ?_
    refine v_iconst o (1 : Int32) dX11_has_24 (by decide) ?_
    refine v_icmp_ne o 45 dX11_has_25 (by decide) (fun c4 => ?_) (fun c4 => ?_)
    · replace h := z_in c4 h
      exact tj_X11_has_L11_45 o hX hK0 h hk
    · replace h := z_ip c4 h
      refine v_aload_n o dX11_has_28 rfl 0 rfl ?_
      refine gt_11_30 o hK0 ln_5_125 dX11_has_29 ?_
      refine v_iload o dX11_has_32 5 rfl ?_
      refine v_ishr o dX11_has_34 ?_
      refine v_iconst o (1 : Int32) dX11_has_35 (by decide) ?_
      refine v_iand o dX11_has_36 ?_
      refine v_iconst o (1 : Int32) dX11_has_37 (by decide) ?_
      refine v_icmp_ne o 45 dX11_has_38 (by decide) (fun c9 => ?_) (fun c9 => ?_)
      · replace h := z_in c9 h
        exact tj_X11_has_L11_45 o hX hK0 h hk
      · replace h := z_ip c9 h
        refine v_iconst o (1 : Int32) dX11_has_41 (by decide) ?_
        refine v_goto o 46 dX11_has_42 (by decide) ?_
        exact tj_X11_has_L11_46 o hX hK0 h hk
def f_X11_has (G : z_G) (D : z_D) (a0 : Nat) (a1 : Int32) (a2 : Int32) : Option (Int32 × z_D) :=
  (f_X11_bodyDigest G D a0).bind (fun p2 => (((z_loop (fun v => c_X11_has_11 G p2.2 a0 a1 a2 p2.1 v.1 v.2) 4000 ((0 : Int32), (0 : Int32))).bind (fun e10 => (if e10 < a2 then ((some ((0 : Int32), p2.2))) else (((some ((1 : Int32), p2.2)))))))))
set_option maxRecDepth 100000 in
set_option maxHeartbeats 4000000 in
theorem b_X11_has {q : z_Q} {X : z_X} {G : z_G} {D : z_D} {a0 : Nat} {a1 : Int32} {a2 : Int32} {r : Int32} {D1 : z_D} (o : z_O q X cX11_has 8 "FlashTrustModel" "has" (some .boolean)) (hX : x_R X = z_rm 2 0 0) (hK0 : z_K G a0 = 111) (h : f_X11_has G D a0 a1 a2 = some (r, D1)) : z_V q X 8 (z_F q X (some (.int r)) G D1 0 0) 0 0 G D 0 [(0, .ref (z_w q a0)), (1, .int a1), (2, .int a2)] [] := by
  unfold f_X11_has at h
  refine v_aload_n o dX11_has_0 rfl 0 rfl ?_
  obtain ⟨p2, he1, h⟩ := z_bind h
  refine v_callV o yw_X11_bodyDigest ln_6_191 wi_X11_bodyDigest ws_X11_bodyDigest hX (by decide) 11 rfl hK0 (As := []) rfl rfl (Nat.le_of_ble_eq_true rfl) (e_X11_bodyDigest hK0 he1) dX11_has_1 ?_
  refine v_lstore_n o [(3, .long p2.1), (0, .ref (z_w q a0)), (1, .int a1), (2, .int a2)] dX11_has_4 rfl (by decide) rfl ?_
  refine v_iconst o (0 : Int32) dX11_has_5 (by decide) ?_
  refine v_istore o [(5, .int (0 : Int32)), (3, .long p2.1), (0, .ref (z_w q a0)), (1, .int a1), (2, .int a2)] dX11_has_6 (by decide) rfl ?_
  refine v_iconst o (0 : Int32) dX11_has_8 (by decide) ?_
  refine v_istore o [(6, .int (0 : Int32)), (5, .int (0 : Int32)), (3, .long p2.1), (0, .ref (z_w q a0)), (1, .int a1), (2, .int a2)] dX11_has_9 (by decide) rfl ?_
  refine v_sub [3, 4, 5, 2, 1, 0] rfl ?_
  obtain ⟨e10, he11, h⟩ := z_bind h
  refine z_loopV (P := p_X11_has_11 q X _ G p2.2 a0 a1 a2 p2.1) (E := x_X11_has_11 q X _ G p2.2 a0 a1 a2 p2.1) (fun v ρ hb hk => tc_X11_has_11 (D := p2.2) (a0 := a0) (a1 := a1) (a2 := a2) (a3 := p2.1) (a5 := v.1) (a6 := v.2) o hX hK0 hb hk) 4000 _ e10 he11 ?_
  show z_V q X 8 _ _ _ G p2.2 79 [(2, .int a2), (5, .int e10)] []
  refine v_iload o dX11_has_79 1 rfl ?_
  refine v_iload_n o dX11_has_81 rfl 0 rfl ?_
  refine v_icmp_lt o 89 dX11_has_82 (by decide) (fun c12 => ?_) (fun c12 => ?_)
  · replace h := z_ip c12 h
    refine v_iconst o (0 : Int32) dX11_has_89 (by decide) ?_
    obtain ⟨hr, hs⟩ := Prod.mk.inj (z_some h)
    subst hr
    subst hs
    exact v_zreturn o (by decide) dX11_has_90
  · replace h := z_in c12 h
    refine v_iconst o (1 : Int32) dX11_has_85 (by decide) ?_
    refine v_goto o 90 dX11_has_86 (by decide) ?_
    obtain ⟨hr, hs⟩ := Prod.mk.inj (z_some h)
    subst hr
    subst hs
    exact v_zreturn o (by decide) dX11_has_90
theorem e_X11_has {q : z_Q} {l : Launch} {G : z_G} {D : z_D} {a0 : Nat} {a1 : Int32} {a2 : Int32} {r : Int32} {D1 : z_D} (hK0 : z_K G a0 = 111) (h : f_X11_has G D a0 a1 a2 = some (r, D1)) : z_E q l yX11_has cX11_has 8 (some .boolean) 2 0 0 [.ref (z_w q a0), .int a1, .int a2] G D (some (.int r)) G D1 :=
  z_E.of (by decide) (Nat.le_of_ble_eq_true rfl) (fun X hX _ o => b_X11_has o hX hK0 h)
def p_X11_isRecord_22 (q : z_Q) (X : z_X) (Q : State → Prop) (G : z_G) (a0 : Nat) (a1 : Int32) (a2 : Int32) (a3 : Int32) : (z_D × Int32) → Prop := (fun v => z_V q X 5 Q 0 0 G v.1 22 [(0, .ref (z_w q a0)), (1, .int a1), (2, .int a2), (3, .int a3), (4, .int v.2)] [])
def x_X11_isRecord_22 (q : z_Q) (X : z_X) (Q : State → Prop) (G : z_G) (a0 : Nat) (a1 : Int32) (a2 : Int32) (a3 : Int32) : z_D → Prop := (fun v => z_V q X 5 Q 0 0 G v 50 [(0, .ref (z_w q a0)), (1, .int a1)] [])
def k_X11_isRecord_22 (q : z_Q) (X : z_X) (Q : State → Prop) (G : z_G) (a0 : Nat) (a1 : Int32) (a2 : Int32) (a3 : Int32) : (z_D × Int32) ⊕ z_D → Prop := Sum.elim (p_X11_isRecord_22 q X Q G a0 a1 a2 a3) (x_X11_isRecord_22 q X Q G a0 a1 a2 a3)
def c_X11_isRecord_22 (G : z_G) (D : z_D) (a0 : Nat) (a1 : Int32) (a2 : Int32) (a3 : Int32) (a4 : Int32) : Option ((z_D × Int32) ⊕ z_D) :=
  (if a3 ≤ a4 then (some (.inr D)) else (z_gK G 1 (z_R G 1125 a0) (z_gK G 1 (z_R G 1100 a0) (z_gA G 1 (z_R G 1100 a0) (a2 + a4) (z_gA G 1 (z_R G 1125 a0) a4 ((some (.inl ((z_sU D (z_R G 1125 a0) (a4).toNatClampNeg (z_U D (z_R G 1100 a0) ((a2 + a4)).toNatClampNeg)), (a4 + (1 : Int32)))))))))))
set_option maxRecDepth 100000 in
set_option maxHeartbeats 4000000 in
theorem tc_X11_isRecord_22 {q : z_Q} {X : z_X} {G : z_G} {D : z_D} {Q : State → Prop} {a0 : Nat} {a1 : Int32} {a2 : Int32} {a3 : Int32} {a4 : Int32} (o : z_O q X cX11_isRecord 5 "FlashTrustModel" "isRecord" (some .boolean)) (hX : x_R X = z_rm 4 0 0) (hK0 : z_K G a0 = 111) {ρ : (z_D × Int32) ⊕ z_D} (h : c_X11_isRecord_22 G D a0 a1 a2 a3 a4 = some ρ) (hk : k_X11_isRecord_22 q X Q G a0 a1 a2 a3 ρ) : z_V q X 5 Q 0 0 G D 22 [(0, .ref (z_w q a0)), (1, .int a1), (2, .int a2), (3, .int a3), (4, .int a4)] [] := by
  unfold c_X11_isRecord_22 at h
  refine v_iload o dX11_isRecord_22 4 rfl ?_
  refine v_iload_n o dX11_isRecord_24 rfl 3 rfl ?_
  refine v_icmp_ge o 50 dX11_isRecord_25 (by decide) (fun c2 => ?_) (fun c2 => ?_)
  · replace h := z_ip c2 h
    obtain rfl := z_some h
    refine v_sub [0, 1] rfl ?_
    exact hk
  · replace h := z_in c2 h
    refine v_aload_n o dX11_isRecord_28 rfl 0 rfl ?_
    obtain ⟨n3, h⟩ := z_gK_of h
    refine gt_11_25 o hK0 ln_5_120 (by rw [n3]; decide) dX11_isRecord_29 ?_
    refine v_iload o dX11_isRecord_32 4 rfl ?_
    refine v_aload_n o dX11_isRecord_34 rfl 0 rfl ?_
    obtain ⟨n4, h⟩ := z_gK_of h
    refine gt_11_0 o hK0 ln_5_95 (by rw [n4]; decide) dX11_isRecord_35 ?_
    refine v_iload_n o dX11_isRecord_38 rfl 2 rfl ?_
    refine v_iload o dX11_isRecord_39 4 rfl ?_
    refine v_iadd o dX11_isRecord_41 ?_
    obtain ⟨n5, n6, h⟩ := z_gA_of h
    refine v_iald o n5 n6 dX11_isRecord_42 ?_
    obtain ⟨n7, n8, h⟩ := z_gA_of h
    refine v_iast o n7 n8 dX11_isRecord_43 ?_
    refine v_iinc o (a4 + (1 : Int32)) [(4, .int (a4 + (1 : Int32))), (0, .ref (z_w q a0)), (1, .int a1), (2, .int a2), (3, .int a3)] dX11_isRecord_44 4 rfl rfl (by decide) rfl ?_
    refine v_goto o 22 dX11_isRecord_47 (by decide) ?_
    obtain rfl := z_some h
    refine v_sub [1, 2, 3, 4, 0] rfl ?_
    exact hk
def f_X11_isRecord (G : z_G) (D : z_D) (a0 : Nat) (a1 : Int32) (a2 : Int32) (a3 : Int32) : Option (Int32 × z_D) :=
  (if a3 = (0 : Int32) then ((if a1 = (0 : Int32) then ((some ((0 : Int32), D))) else (((some ((1 : Int32), D)))))) else (((z_loop (fun v => c_X11_isRecord_22 G v.1 a0 a1 a2 a3 v.2) 4000 ((z_sI D 1126 a0 a3), (0 : Int32))).bind (fun e9 => (f_X11_readDoc G e9 a0).bind (fun p12 => ((if p12.1 = (0 : Int32) then ((some ((0 : Int32), p12.2))) else ((if (z_I p12.2 1127 a0) = a1 then (((some ((1 : Int32), p12.2)))) else ((some ((0 : Int32), p12.2))))))))))))
set_option maxRecDepth 100000 in
set_option maxHeartbeats 4000000 in
theorem b_X11_isRecord {q : z_Q} {X : z_X} {G : z_G} {D : z_D} {a0 : Nat} {a1 : Int32} {a2 : Int32} {a3 : Int32} {r : Int32} {D1 : z_D} (o : z_O q X cX11_isRecord 5 "FlashTrustModel" "isRecord" (some .boolean)) (hX : x_R X = z_rm 4 0 0) (hK0 : z_K G a0 = 111) (h : f_X11_isRecord G D a0 a1 a2 a3 = some (r, D1)) : z_V q X 5 (z_F q X (some (.int r)) G D1 0 0) 0 0 G D 0 [(0, .ref (z_w q a0)), (1, .int a1), (2, .int a2), (3, .int a3)] [] := by
  unfold f_X11_isRecord at h
  refine v_iload_n o dX11_isRecord_0 rfl 3 rfl ?_
  refine v_if_ne o 14 dX11_isRecord_1 (by decide) (fun c1 => ?_) (fun c1 => ?_)
  · replace h := z_in c1 h
    refine v_aload_n o dX11_isRecord_14 rfl 0 rfl ?_
    refine v_iload_n o dX11_isRecord_15 rfl 3 rfl ?_
    refine pt_11_26 o hK0 ln_5_121 dX11_isRecord_16 ?_
    refine v_iconst o (0 : Int32) dX11_isRecord_19 (by decide) ?_
    refine v_istore o [(4, .int (0 : Int32)), (0, .ref (z_w q a0)), (1, .int a1), (2, .int a2), (3, .int a3)] dX11_isRecord_20 (by decide) rfl ?_
    refine v_sub [1, 2, 3, 4, 0] rfl ?_
    obtain ⟨e9, he10, h⟩ := z_bind h
    refine z_loopV (P := p_X11_isRecord_22 q X _ G a0 a1 a2 a3) (E := x_X11_isRecord_22 q X _ G a0 a1 a2 a3) (fun v ρ hb hk => tc_X11_isRecord_22 (D := v.1) (a0 := a0) (a1 := a1) (a2 := a2) (a3 := a3) (a4 := v.2) o hX hK0 hb hk) 4000 _ e9 he10 ?_
    show z_V q X 5 _ _ _ G e9 50 [(0, .ref (z_w q a0)), (1, .int a1)] []
    refine v_aload_n o dX11_isRecord_50 rfl 0 rfl ?_
    obtain ⟨p12, he11, h⟩ := z_bind h
    refine v_callV o yw_X11_readDoc ln_6_141 wi_X11_readDoc ws_X11_readDoc hX (by decide) 11 rfl hK0 (As := []) rfl rfl (Nat.le_of_ble_eq_true rfl) (e_X11_readDoc hK0 he11) dX11_isRecord_51 ?_
    refine v_if_eq o 69 dX11_isRecord_54 (by decide) (fun c13 => ?_) (fun c13 => ?_)
    · replace h := z_ip c13 h
      refine v_iconst o (0 : Int32) dX11_isRecord_69 (by decide) ?_
      obtain ⟨hr, hs⟩ := Prod.mk.inj (z_some h)
      subst hr
      subst hs
      exact v_zreturn o (by decide) dX11_isRecord_70
    · replace h := z_in c13 h
      refine v_aload_n o dX11_isRecord_57 rfl 0 rfl ?_
      refine gt_11_27 o hK0 ln_5_122 dX11_isRecord_58 ?_
      refine v_iload_n o dX11_isRecord_61 rfl 1 rfl ?_
      refine v_icmp_ne o 69 dX11_isRecord_62 (by decide) (fun c14 => ?_) (fun c14 => ?_)
      · replace h := z_in c14 h
        refine v_iconst o (0 : Int32) dX11_isRecord_69 (by decide) ?_
        obtain ⟨hr, hs⟩ := Prod.mk.inj (z_some h)
        subst hr
        subst hs
        exact v_zreturn o (by decide) dX11_isRecord_70
      · replace h := z_ip c14 h
        refine v_iconst o (1 : Int32) dX11_isRecord_65 (by decide) ?_
        refine v_goto o 70 dX11_isRecord_66 (by decide) ?_
        obtain ⟨hr, hs⟩ := Prod.mk.inj (z_some h)
        subst hr
        subst hs
        exact v_zreturn o (by decide) dX11_isRecord_70
  · replace h := z_ip c1 h
    refine v_iload_n o dX11_isRecord_4 rfl 1 rfl ?_
    refine v_if_eq o 12 dX11_isRecord_5 (by decide) (fun c15 => ?_) (fun c15 => ?_)
    · replace h := z_ip c15 h
      refine v_iconst o (0 : Int32) dX11_isRecord_12 (by decide) ?_
      obtain ⟨hr, hs⟩ := Prod.mk.inj (z_some h)
      subst hr
      subst hs
      exact v_zreturn o (by decide) dX11_isRecord_13
    · replace h := z_in c15 h
      refine v_iconst o (1 : Int32) dX11_isRecord_8 (by decide) ?_
      refine v_goto o 13 dX11_isRecord_9 (by decide) ?_
      obtain ⟨hr, hs⟩ := Prod.mk.inj (z_some h)
      subst hr
      subst hs
      exact v_zreturn o (by decide) dX11_isRecord_13
theorem e_X11_isRecord {q : z_Q} {l : Launch} {G : z_G} {D : z_D} {a0 : Nat} {a1 : Int32} {a2 : Int32} {a3 : Int32} {r : Int32} {D1 : z_D} (hK0 : z_K G a0 = 111) (h : f_X11_isRecord G D a0 a1 a2 a3 = some (r, D1)) : z_E q l yX11_isRecord cX11_isRecord 5 (some .boolean) 4 0 0 [.ref (z_w q a0), .int a1, .int a2, .int a3] G D (some (.int r)) G D1 :=
  z_E.of (by decide) (Nat.le_of_ble_eq_true rfl) (fun X hX _ o => b_X11_isRecord o hX hK0 h)
def p_X11_findRecord_20 (q : z_Q) (X : z_X) (Q : State → Prop) (G : z_G) (a0 : Nat) (a1 : Int32) : (z_D × Int32) → Prop := (fun v => z_V q X 6 Q 0 0 G v.1 20 [(0, .ref (z_w q a0)), (1, .int a1), (2, .int v.2)] [])
def x_X11_findRecord_20 (q : z_Q) (X : z_X) (Q : State → Prop) (G : z_G) (a0 : Nat) (a1 : Int32) : z_D → Prop := (fun v => z_V q X 6 Q 0 0 G v 162 [] [])
def k_X11_findRecord_20 (q : z_Q) (X : z_X) (Q : State → Prop) (G : z_G) (a0 : Nat) (a1 : Int32) : (z_D × Int32) ⊕ z_D → Prop := Sum.elim (p_X11_findRecord_20 q X Q G a0 a1) (x_X11_findRecord_20 q X Q G a0 a1)
def j_X11_findRecord_L20_135 (G : z_G) (D : z_D) (a0 : Nat) (a1 : Int32) (a2 : Int32) (a3 : Int32) (a4 : Int32)  : Option ((z_D × Int32) ⊕ z_D) :=
  (f_X11_wide G (z_sI D 1144 a0 a2) a0 a3 (4 : Int32)).bind (fun r8 => ((some (.inl ((z_sI (z_sI (z_sI D 1144 a0 a2) 1145 a0 r8) 1146 a0 a4), (a2 + (1 : Int32)))))))
set_option maxRecDepth 100000 in
set_option maxHeartbeats 4000000 in
theorem tj_X11_findRecord_L20_135 {q : z_Q} {X : z_X} {G : z_G} {D : z_D} {Q : State → Prop}  {a0 : Nat} {a1 : Int32} {a2 : Int32} {a3 : Int32} {a4 : Int32}  (o : z_O q X cX11_findRecord 6 "FlashTrustModel" "findRecord" none) (hX : x_R X = z_rm 5 0 0) (hK0 : z_K G a0 = 111) {ρ : (z_D × Int32) ⊕ z_D} (h : j_X11_findRecord_L20_135 G D a0 a1 a2 a3 a4  = some ρ) (hk : k_X11_findRecord_20 q X Q G a0 a1 ρ) : z_V q X 6 Q 0 0 G D 135 [(0, .ref (z_w q a0)), (1, .int a1), (2, .int a2), (3, .int a3), (4, .int a4)] [] := by
  unfold j_X11_findRecord_L20_135 at h
  refine v_aload_n o dX11_findRecord_135 rfl 0 rfl ?_
  refine v_iload_n o dX11_findRecord_136 rfl 2 rfl ?_
  refine pt_11_44 o hK0 ln_5_139 dX11_findRecord_137 ?_
  refine v_aload_n o dX11_findRecord_140 rfl 0 rfl ?_
  refine v_aload_n o dX11_findRecord_141 rfl 0 rfl ?_
  refine v_iload_n o dX11_findRecord_142 rfl 3 rfl ?_
  refine v_iconst o (4 : Int32) dX11_findRecord_143 (by decide) ?_
  obtain ⟨r8, he7, h⟩ := z_bind h
  refine v_callV o yw_X11_wide ln_5_71 wi_X11_wide ws_X11_wide hX (by decide) 11 rfl hK0 (As := [.int a3, .int (4 : Int32)]) rfl rfl (Nat.le_of_ble_eq_true rfl) (e_X11_wide hK0 he7) dX11_findRecord_144 ?_
  refine pt_11_45 o hK0 ln_5_140 dX11_findRecord_147 ?_
  refine v_aload_n o dX11_findRecord_150 rfl 0 rfl ?_
  refine v_iload o dX11_findRecord_151 4 rfl ?_
  refine pt_11_46 o hK0 ln_5_141 dX11_findRecord_153 ?_
  refine v_iinc o (a2 + (1 : Int32)) [(2, .int (a2 + (1 : Int32))), (0, .ref (z_w q a0)), (1, .int a1), (3, .int a3), (4, .int a4)] dX11_findRecord_156 2 rfl rfl (by decide) rfl ?_
  refine v_goto o 20 dX11_findRecord_159 (by decide) ?_
  obtain rfl := z_some h
  refine v_sub [1, 2, 0] rfl ?_
  exact hk
def j_X11_findRecord_L20_106 (G : z_G) (D : z_D) (a0 : Nat) (a1 : Int32) (a2 : Int32) (a3 : Int32) (a4 : Int32) (s0 : Int32) : Option ((z_D × Int32) ⊕ z_D) :=
  (if s0 = (0 : Int32) then ((some (.inl (D, (a2 + (1 : Int32)))))) else ((if (z_I D 1144 a0) = (-2 : Int32) then (j_X11_findRecord_L20_135 G D  a0 a1 a2 a3 a4) else ((f_X11_wide G D a0 a3 (4 : Int32)).bind (fun r10 => ((if r10 ≤ (z_I D 1145 a0) then ((some (.inl (D, (a2 + (1 : Int32)))))) else (j_X11_findRecord_L20_135 G D  a0 a1 a2 a3 a4))))))))
set_option maxRecDepth 100000 in
set_option maxHeartbeats 4000000 in
theorem tj_X11_findRecord_L20_106 {q : z_Q} {X : z_X} {G : z_G} {D : z_D} {Q : State → Prop}  {a0 : Nat} {a1 : Int32} {a2 : Int32} {a3 : Int32} {a4 : Int32} {s0 : Int32} (o : z_O q X cX11_findRecord 6 "FlashTrustModel" "findRecord" none) (hX : x_R X = z_rm 5 0 0) (hK0 : z_K G a0 = 111) {ρ : (z_D × Int32) ⊕ z_D} (h : j_X11_findRecord_L20_106 G D a0 a1 a2 a3 a4 s0 = some ρ) (hk : k_X11_findRecord_20 q X Q G a0 a1 ρ) : z_V q X 6 Q 0 0 G D 106 [(0, .ref (z_w q a0)), (1, .int a1), (2, .int a2), (3, .int a3), (4, .int a4)] [.int s0] := by
  unfold j_X11_findRecord_L20_106 at h
  refine v_istore o [(5, .int s0), (0, .ref (z_w q a0)), (1, .int a1), (2, .int a2), (3, .int a3), (4, .int a4)] dX11_findRecord_106 (by decide) rfl ?_
  refine v_iload o dX11_findRecord_108 0 rfl ?_
  refine v_if_eq o 156 dX11_findRecord_110 (by decide) (fun c5 => ?_) (fun c5 => ?_)
  · replace h := z_ip c5 h
    refine v_iinc o (a2 + (1 : Int32)) [(2, .int (a2 + (1 : Int32))), (5, .int s0), (0, .ref (z_w q a0)), (1, .int a1), (3, .int a3), (4, .int a4)] dX11_findRecord_156 3 rfl rfl (by decide) rfl ?_
    refine v_goto o 20 dX11_findRecord_159 (by decide) ?_
    obtain rfl := z_some h
    refine v_sub [2, 3, 0] rfl ?_
    exact hk
  · replace h := z_in c5 h
    refine v_aload_n o dX11_findRecord_113 rfl 1 rfl ?_
    refine gt_11_44 o hK0 ln_5_139 dX11_findRecord_114 ?_
    refine v_bipush o (-2 : Int32) dX11_findRecord_117 (by decide) ?_
    refine v_icmp_eq o 135 dX11_findRecord_119 (by decide) (fun c6 => ?_) (fun c6 => ?_)
    · replace h := z_ip c6 h
      refine v_sub [1, 2, 3, 4, 5] rfl ?_
      exact tj_X11_findRecord_L20_135 o hX hK0 h hk
    · replace h := z_in c6 h
      refine v_aload_n o dX11_findRecord_122 rfl 1 rfl ?_
      refine v_iload_n o dX11_findRecord_123 rfl 4 rfl ?_
      refine v_iconst o (4 : Int32) dX11_findRecord_124 (by decide) ?_
      obtain ⟨r10, he9, h⟩ := z_bind h
      refine v_callV o yw_X11_wide ln_5_71 wi_X11_wide ws_X11_wide hX (by decide) 11 rfl hK0 (As := [.int a3, .int (4 : Int32)]) rfl rfl (Nat.le_of_ble_eq_true rfl) (e_X11_wide hK0 he9) dX11_findRecord_125 ?_
      refine v_aload_n o dX11_findRecord_128 rfl 1 rfl ?_
      refine gt_11_45 o hK0 ln_5_140 dX11_findRecord_129 ?_
      refine v_icmp_le o 156 dX11_findRecord_132 (by decide) (fun c11 => ?_) (fun c11 => ?_)
      · replace h := z_ip c11 h
        refine v_iinc o (a2 + (1 : Int32)) [(2, .int (a2 + (1 : Int32))), (5, .int s0), (0, .ref (z_w q a0)), (1, .int a1), (3, .int a3), (4, .int a4)] dX11_findRecord_156 3 rfl rfl (by decide) rfl ?_
        refine v_goto o 20 dX11_findRecord_159 (by decide) ?_
        obtain rfl := z_some h
        refine v_sub [2, 3, 0] rfl ?_
        exact hk
      · replace h := z_in c11 h
        refine v_sub [1, 2, 3, 4, 5] rfl ?_
        exact tj_X11_findRecord_L20_135 o hX hK0 h hk
def j_X11_findRecord_L20_105 (G : z_G) (D : z_D) (a0 : Nat) (a1 : Int32) (a2 : Int32) (a3 : Int32) (a4 : Int32)  : Option ((z_D × Int32) ⊕ z_D) :=
  (j_X11_findRecord_L20_106 G D  a0 a1 a2 a3 a4 (0 : Int32))
set_option maxRecDepth 100000 in
set_option maxHeartbeats 4000000 in
theorem tj_X11_findRecord_L20_105 {q : z_Q} {X : z_X} {G : z_G} {D : z_D} {Q : State → Prop}  {a0 : Nat} {a1 : Int32} {a2 : Int32} {a3 : Int32} {a4 : Int32}  (o : z_O q X cX11_findRecord 6 "FlashTrustModel" "findRecord" none) (hX : x_R X = z_rm 5 0 0) (hK0 : z_K G a0 = 111) {ρ : (z_D × Int32) ⊕ z_D} (h : j_X11_findRecord_L20_105 G D a0 a1 a2 a3 a4  = some ρ) (hk : k_X11_findRecord_20 q X Q G a0 a1 ρ) : z_V q X 6 Q 0 0 G D 105 [(0, .ref (z_w q a0)), (1, .int a1), (2, .int a2), (3, .int a3), (4, .int a4)] [] := by
  unfold j_X11_findRecord_L20_105 at h
  refine v_iconst o (0 : Int32) dX11_findRecord_105 (by decide) ?_
  exact tj_X11_findRecord_L20_106 o hX hK0 h hk
def c_X11_findRecord_20 (G : z_G) (D : z_D) (a0 : Nat) (a1 : Int32) (a2 : Int32) : Option ((z_D × Int32) ⊕ z_D) :=
  (if (((2 : Int32) * a1) + (2 : Int32)) ≤ a2 then (some (.inr D)) else ((f_X11_wide G D a0 (((128 : Int32) * a2) + (4 : Int32)) (2 : Int32)).bind (fun r3 => ((if (118 : Int32) < r3 then (j_X11_findRecord_L20_105 G D  a0 a1 a2 ((128 : Int32) * a2) r3) else ((f_X11_wide G D a0 ((128 : Int32) * a2) (4 : Int32)).bind (fun r13 => ((if r13 < (1 : Int32) then (j_X11_findRecord_L20_105 G D  a0 a1 a2 ((128 : Int32) * a2) r3) else ((f_X11_checkOf G D a0 ((128 : Int32) * a2) ((6 : Int32) + r3)).bind (fun p16 => ((f_X11_wide G p16.2 a0 ((((128 : Int32) * a2) + (6 : Int32)) + r3) (4 : Int32)).bind (fun r18 => ((if p16.1 = r18 then ((f_X11_isRecord G p16.2 a0 a1 (((128 : Int32) * a2) + (6 : Int32)) r3).bind (fun p21 => ((if p21.1 = (0 : Int32) then (j_X11_findRecord_L20_105 G p21.2  a0 a1 a2 ((128 : Int32) * a2) r3) else ((j_X11_findRecord_L20_106 G p21.2  a0 a1 a2 ((128 : Int32) * a2) r3 (1 : Int32))))))) else (j_X11_findRecord_L20_105 G p16.2  a0 a1 a2 ((128 : Int32) * a2) r3))))))))))))))))
set_option maxRecDepth 100000 in
set_option maxHeartbeats 4000000 in
theorem tc_X11_findRecord_20 {q : z_Q} {X : z_X} {G : z_G} {D : z_D} {Q : State → Prop} {a0 : Nat} {a1 : Int32} {a2 : Int32} (o : z_O q X cX11_findRecord 6 "FlashTrustModel" "findRecord" none) (hX : x_R X = z_rm 5 0 0) (hK0 : z_K G a0 = 111) {ρ : (z_D × Int32) ⊕ z_D} (h : c_X11_findRecord_20 G D a0 a1 a2 = some ρ) (hk : k_X11_findRecord_20 q X Q G a0 a1 ρ) : z_V q X 6 Q 0 0 G D 20 [(0, .ref (z_w q a0)), (1, .int a1), (2, .int a2)] [] := by
  unfold c_X11_findRecord_20 at h
  refine v_iload_n o dX11_findRecord_20 rfl 2 rfl ?_
  refine v_iconst o (2 : Int32) dX11_findRecord_21 (by decide) ?_
  refine v_iload_n o dX11_findRecord_22 rfl 1 rfl ?_
  refine v_imul o dX11_findRecord_23 ?_
  refine v_iconst o (2 : Int32) dX11_findRecord_24 (by decide) ?_
  refine v_iadd o dX11_findRecord_25 ?_
  refine v_icmp_ge o 162 dX11_findRecord_26 (by decide) (fun c1 => ?_) (fun c1 => ?_)
  · replace h := z_ip c1 h
    obtain rfl := z_some h
    refine v_sub [] rfl ?_
    exact hk
  · replace h := z_in c1 h
    refine v_sipush o (128 : Int32) dX11_findRecord_29 (by decide) ?_
    refine v_iload_n o dX11_findRecord_32 rfl 2 rfl ?_
    refine v_imul o dX11_findRecord_33 ?_
    refine v_istore_n o [(3, .int ((128 : Int32) * a2)), (0, .ref (z_w q a0)), (1, .int a1), (2, .int a2)] dX11_findRecord_34 rfl (by decide) rfl ?_
    refine v_aload_n o dX11_findRecord_35 rfl 1 rfl ?_
    refine v_iload_n o dX11_findRecord_36 rfl 0 rfl ?_
    refine v_iconst o (4 : Int32) dX11_findRecord_37 (by decide) ?_
    refine v_iadd o dX11_findRecord_38 ?_
    refine v_iconst o (2 : Int32) dX11_findRecord_39 (by decide) ?_
    obtain ⟨r3, he2, h⟩ := z_bind h
    refine v_callV o yw_X11_wide ln_5_71 wi_X11_wide ws_X11_wide hX (by decide) 11 rfl hK0 (As := [.int (((128 : Int32) * a2) + (4 : Int32)), .int (2 : Int32)]) rfl rfl (Nat.le_of_ble_eq_true rfl) (e_X11_wide hK0 he2) dX11_findRecord_40 ?_
    refine v_istore o [(4, .int r3), (3, .int ((128 : Int32) * a2)), (0, .ref (z_w q a0)), (1, .int a1), (2, .int a2)] dX11_findRecord_43 (by decide) rfl ?_
    refine v_iload o dX11_findRecord_45 0 rfl ?_
    refine v_bipush o (118 : Int32) dX11_findRecord_47 (by decide) ?_
    refine v_icmp_gt o 105 dX11_findRecord_49 (by decide) (fun c4 => ?_) (fun c4 => ?_)
    · replace h := z_ip c4 h
      refine v_sub [2, 3, 4, 1, 0] rfl ?_
      exact tj_X11_findRecord_L20_105 o hX hK0 h hk
    · replace h := z_in c4 h
      refine v_aload_n o dX11_findRecord_52 rfl 2 rfl ?_
      refine v_iload_n o dX11_findRecord_53 rfl 1 rfl ?_
      refine v_iconst o (4 : Int32) dX11_findRecord_54 (by decide) ?_
      obtain ⟨r13, he12, h⟩ := z_bind h
      refine v_callV o yw_X11_wide ln_5_71 wi_X11_wide ws_X11_wide hX (by decide) 11 rfl hK0 (As := [.int ((128 : Int32) * a2), .int (4 : Int32)]) rfl rfl (Nat.le_of_ble_eq_true rfl) (e_X11_wide hK0 he12) dX11_findRecord_55 ?_
      refine v_iconst o (1 : Int32) dX11_findRecord_58 (by decide) ?_
      refine v_icmp_lt o 105 dX11_findRecord_59 (by decide) (fun c14 => ?_) (fun c14 => ?_)
      · replace h := z_ip c14 h
        refine v_sub [2, 3, 4, 1, 0] rfl ?_
        exact tj_X11_findRecord_L20_105 o hX hK0 h hk
      · replace h := z_in c14 h
        refine v_aload_n o dX11_findRecord_62 rfl 2 rfl ?_
        refine v_iload_n o dX11_findRecord_63 rfl 1 rfl ?_
        refine v_bipush o (6 : Int32) dX11_findRecord_64 (by decide) ?_
        refine v_iload o dX11_findRecord_66 0 rfl ?_
        refine v_iadd o dX11_findRecord_68 ?_
        obtain ⟨p16, he15, h⟩ := z_bind h
        refine v_callV o yw_X11_checkOf ln_5_75 wi_X11_checkOf ws_X11_checkOf hX (by decide) 11 rfl hK0 (As := [.int ((128 : Int32) * a2), .int ((6 : Int32) + r3)]) rfl rfl (Nat.le_of_ble_eq_true rfl) (e_X11_checkOf hK0 he15) dX11_findRecord_69 ?_
        refine v_aload_n o dX11_findRecord_72 rfl 2 rfl ?_
        refine v_iload_n o dX11_findRecord_73 rfl 1 rfl ?_
        refine v_bipush o (6 : Int32) dX11_findRecord_74 (by decide) ?_
        refine v_iadd o dX11_findRecord_76 ?_
        refine v_iload o dX11_findRecord_77 0 rfl ?_
        refine v_iadd o dX11_findRecord_79 ?_
        refine v_iconst o (4 : Int32) dX11_findRecord_80 (by decide) ?_
        obtain ⟨r18, he17, h⟩ := z_bind h
        refine v_callV o yw_X11_wide ln_5_71 wi_X11_wide ws_X11_wide hX (by decide) 11 rfl hK0 (As := [.int ((((128 : Int32) * a2) + (6 : Int32)) + r3), .int (4 : Int32)]) rfl rfl (Nat.le_of_ble_eq_true rfl) (e_X11_wide hK0 he17) dX11_findRecord_81 ?_
        refine v_icmp_ne o 105 dX11_findRecord_84 (by decide) (fun c19 => ?_) (fun c19 => ?_)
        · replace h := z_in c19 h
          refine v_sub [2, 3, 4, 1, 0] rfl ?_
          exact tj_X11_findRecord_L20_105 o hX hK0 h hk
        · replace h := z_ip c19 h
          refine v_aload_n o dX11_findRecord_87 rfl 2 rfl ?_
          refine v_iload_n o dX11_findRecord_88 rfl 3 rfl ?_
          refine v_iload_n o dX11_findRecord_89 rfl 1 rfl ?_
          refine v_bipush o (6 : Int32) dX11_findRecord_90 (by decide) ?_
          refine v_iadd o dX11_findRecord_92 ?_
          refine v_iload o dX11_findRecord_93 0 rfl ?_
          obtain ⟨p21, he20, h⟩ := z_bind h
          refine v_callV o yw_X11_isRecord ln_6_178 wi_X11_isRecord ws_X11_isRecord hX (by decide) 11 rfl hK0 (As := [.int a1, .int (((128 : Int32) * a2) + (6 : Int32)), .int r3]) rfl rfl (Nat.le_of_ble_eq_true rfl) (e_X11_isRecord hK0 he20) dX11_findRecord_95 ?_
          refine v_if_eq o 105 dX11_findRecord_98 (by decide) (fun c22 => ?_) (fun c22 => ?_)
          · replace h := z_ip c22 h
            refine v_sub [2, 3, 4, 1, 0] rfl ?_
            exact tj_X11_findRecord_L20_105 o hX hK0 h hk
          · replace h := z_in c22 h
            refine v_iconst o (1 : Int32) dX11_findRecord_101 (by decide) ?_
            refine v_goto o 106 dX11_findRecord_102 (by decide) ?_
            refine v_sub [2, 3, 4, 1, 0] rfl ?_
            exact tj_X11_findRecord_L20_106 o hX hK0 h hk
def f_X11_findRecord (G : z_G) (D : z_D) (a0 : Nat) (a1 : Int32) : Option (z_D) :=
  ((z_loop (fun v => c_X11_findRecord_20 G v.1 a0 a1 v.2) 4000 ((z_sI (z_sI (z_sI D 1144 a0 (-2 : Int32)) 1145 a0 (0 : Int32)) 1146 a0 (0 : Int32)), ((2 : Int32) * a1))).bind (fun e23 => (some e23)))
set_option maxRecDepth 100000 in
set_option maxHeartbeats 4000000 in
theorem b_X11_findRecord {q : z_Q} {X : z_X} {G : z_G} {D : z_D} {a0 : Nat} {a1 : Int32}  {D1 : z_D} (o : z_O q X cX11_findRecord 6 "FlashTrustModel" "findRecord" none) (hX : x_R X = z_rm 5 0 0) (hK0 : z_K G a0 = 111) (h : f_X11_findRecord G D a0 a1 = some D1) : z_V q X 6 (z_F q X none G D1 0 0) 0 0 G D 0 [(0, .ref (z_w q a0)), (1, .int a1)] [] := by
  unfold f_X11_findRecord at h
  refine v_aload_n o dX11_findRecord_0 rfl 0 rfl ?_
  refine v_bipush o (-2 : Int32) dX11_findRecord_1 (by decide) ?_
  refine pt_11_44 o hK0 ln_5_139 dX11_findRecord_3 ?_
  refine v_aload_n o dX11_findRecord_6 rfl 0 rfl ?_
  refine v_iconst o (0 : Int32) dX11_findRecord_7 (by decide) ?_
  refine pt_11_45 o hK0 ln_5_140 dX11_findRecord_8 ?_
  refine v_aload_n o dX11_findRecord_11 rfl 0 rfl ?_
  refine v_iconst o (0 : Int32) dX11_findRecord_12 (by decide) ?_
  refine pt_11_46 o hK0 ln_5_141 dX11_findRecord_13 ?_
  refine v_iconst o (2 : Int32) dX11_findRecord_16 (by decide) ?_
  refine v_iload_n o dX11_findRecord_17 rfl 1 rfl ?_
  refine v_imul o dX11_findRecord_18 ?_
  refine v_istore_n o [(2, .int ((2 : Int32) * a1)), (0, .ref (z_w q a0)), (1, .int a1)] dX11_findRecord_19 rfl (by decide) rfl ?_
  refine v_sub [1, 2, 0] rfl ?_
  obtain ⟨e23, he24, h⟩ := z_bind h
  refine z_loopV (P := p_X11_findRecord_20 q X _ G a0 a1) (E := x_X11_findRecord_20 q X _ G a0 a1) (fun v ρ hb hk => tc_X11_findRecord_20 (D := v.1) (a0 := a0) (a1 := a1) (a2 := v.2) o hX hK0 hb hk) 4000 _ e23 he24 ?_
  show z_V q X 6 _ _ _ G e23 162 [] []
  have hr := z_some h
  subst hr
  exact v_return o dX11_findRecord_162
theorem e_X11_findRecord {q : z_Q} {l : Launch} {G : z_G} {D : z_D} {a0 : Nat} {a1 : Int32}  {D1 : z_D} (hK0 : z_K G a0 = 111) (h : f_X11_findRecord G D a0 a1 = some D1) : z_E q l yX11_findRecord cX11_findRecord 6 none 5 0 0 [.ref (z_w q a0), .int a1] G D none G D1 :=
  z_E.of (by decide) (Nat.le_of_ble_eq_true rfl) (fun X hX _ o => b_X11_findRecord o hX hK0 h)
def p_X11_takeTrusted_15 (q : z_Q) (X : z_X) (Q : State → Prop) (G : z_G) (a0 : Nat) (a1 : Int32) : (z_D × Int32) → Prop := (fun v => z_V q X 3 Q 0 0 G v.1 15 [(0, .ref (z_w q a0)), (1, .int a1), (2, .int v.2)] [])
def x_X11_takeTrusted_15 (q : z_Q) (X : z_X) (Q : State → Prop) (G : z_G) (a0 : Nat) (a1 : Int32) : z_D → Prop := (fun v => z_V q X 3 Q 0 0 G v 53 [(0, .ref (z_w q a0)), (1, .int a1)] [])
def k_X11_takeTrusted_15 (q : z_Q) (X : z_X) (Q : State → Prop) (G : z_G) (a0 : Nat) (a1 : Int32) : (z_D × Int32) ⊕ z_D → Prop := Sum.elim (p_X11_takeTrusted_15 q X Q G a0 a1) (x_X11_takeTrusted_15 q X Q G a0 a1)
def c_X11_takeTrusted_15 (G : z_G) (D : z_D) (a0 : Nat) (a1 : Int32) (a2 : Int32) : Option ((z_D × Int32) ⊕ z_D) :=
  (if (z_I D 1146 a0) ≤ a2 then (some (.inr D)) else (z_gK G 1 (z_R G 1125 a0) (z_gK G 1 (z_R G 1100 a0) (z_gA G 1 (z_R G 1100 a0) ((((128 : Int32) * (z_I D 1144 a0)) + (6 : Int32)) + a2) (z_gA G 1 (z_R G 1125 a0) a2 ((some (.inl ((z_sU D (z_R G 1125 a0) (a2).toNatClampNeg (z_U D (z_R G 1100 a0) (((((128 : Int32) * (z_I D 1144 a0)) + (6 : Int32)) + a2)).toNatClampNeg)), (a2 + (1 : Int32)))))))))))
set_option maxRecDepth 100000 in
set_option maxHeartbeats 4000000 in
theorem tc_X11_takeTrusted_15 {q : z_Q} {X : z_X} {G : z_G} {D : z_D} {Q : State → Prop} {a0 : Nat} {a1 : Int32} {a2 : Int32} (o : z_O q X cX11_takeTrusted 3 "FlashTrustModel" "takeTrusted" (some .boolean)) (hX : x_R X = z_rm 6 0 0) (hK0 : z_K G a0 = 111) {ρ : (z_D × Int32) ⊕ z_D} (h : c_X11_takeTrusted_15 G D a0 a1 a2 = some ρ) (hk : k_X11_takeTrusted_15 q X Q G a0 a1 ρ) : z_V q X 3 Q 0 0 G D 15 [(0, .ref (z_w q a0)), (1, .int a1), (2, .int a2)] [] := by
  unfold c_X11_takeTrusted_15 at h
  refine v_iload_n o dX11_takeTrusted_15 rfl 2 rfl ?_
  refine v_aload_n o dX11_takeTrusted_16 rfl 0 rfl ?_
  refine gt_11_46 o hK0 ln_5_141 dX11_takeTrusted_17 ?_
  refine v_icmp_ge o 53 dX11_takeTrusted_20 (by decide) (fun c3 => ?_) (fun c3 => ?_)
  · replace h := z_ip c3 h
    obtain rfl := z_some h
    refine v_sub [0, 1] rfl ?_
    exact hk
  · replace h := z_in c3 h
    refine v_aload_n o dX11_takeTrusted_23 rfl 0 rfl ?_
    obtain ⟨n4, h⟩ := z_gK_of h
    refine gt_11_25 o hK0 ln_5_120 (by rw [n4]; decide) dX11_takeTrusted_24 ?_
    refine v_iload_n o dX11_takeTrusted_27 rfl 2 rfl ?_
    refine v_aload_n o dX11_takeTrusted_28 rfl 0 rfl ?_
    obtain ⟨n5, h⟩ := z_gK_of h
    refine gt_11_0 o hK0 ln_5_95 (by rw [n5]; decide) dX11_takeTrusted_29 ?_
    refine v_sipush o (128 : Int32) dX11_takeTrusted_32 (by decide) ?_
    refine v_aload_n o dX11_takeTrusted_35 rfl 0 rfl ?_
    refine gt_11_44 o hK0 ln_5_139 dX11_takeTrusted_36 ?_
    refine v_imul o dX11_takeTrusted_39 ?_
    refine v_bipush o (6 : Int32) dX11_takeTrusted_40 (by decide) ?_
    refine v_iadd o dX11_takeTrusted_42 ?_
    refine v_iload_n o dX11_takeTrusted_43 rfl 2 rfl ?_
    refine v_iadd o dX11_takeTrusted_44 ?_
    obtain ⟨n6, n7, h⟩ := z_gA_of h
    refine v_iald o n6 n7 dX11_takeTrusted_45 ?_
    obtain ⟨n8, n9, h⟩ := z_gA_of h
    refine v_iast o n8 n9 dX11_takeTrusted_46 ?_
    refine v_iinc o (a2 + (1 : Int32)) [(2, .int (a2 + (1 : Int32))), (0, .ref (z_w q a0)), (1, .int a1)] dX11_takeTrusted_47 2 rfl rfl (by decide) rfl ?_
    refine v_goto o 15 dX11_takeTrusted_50 (by decide) ?_
    obtain rfl := z_some h
    refine v_sub [1, 2, 0] rfl ?_
    exact hk
def p_X11_takeTrusted_104 (q : z_Q) (X : z_X) (Q : State → Prop) (G : z_G) (a0 : Nat) : (z_D × Int32) → Prop := (fun v => z_V q X 3 Q 0 0 G v.1 104 [(0, .ref (z_w q a0)), (2, .int v.2)] [])
def x_X11_takeTrusted_104 (q : z_Q) (X : z_X) (Q : State → Prop) (G : z_G) (a0 : Nat) : z_D → Prop := (fun v => z_V q X 3 Q 0 0 G v 173 [] [])
def k_X11_takeTrusted_104 (q : z_Q) (X : z_X) (Q : State → Prop) (G : z_G) (a0 : Nat) : (z_D × Int32) ⊕ z_D → Prop := Sum.elim (p_X11_takeTrusted_104 q X Q G a0) (x_X11_takeTrusted_104 q X Q G a0)
def j_X11_takeTrusted_L104_145 (G : z_G) (D : z_D) (a0 : Nat) (a2 : Int32) (s0 : Int32) (s1 : Int32) (s2 : Nat) : Option ((z_D × Int32) ⊕ z_D) :=
  z_gA G 1 s2 s1 (z_gK G 1 (z_R G 1134 a0) ((if a2 = (1 : Int32) then ((z_gA G 1 (z_R G 1134 a0) a2 ((some (.inl ((z_sU (z_sU D s2 (s1).toNatClampNeg s0) (z_R G 1134 a0) (a2).toNatClampNeg (1 : Int32)), (a2 + (1 : Int32)))))))) else ((if a2 = (2 : Int32) then ((z_gA G 1 (z_R G 1134 a0) a2 ((some (.inl ((z_sU (z_sU D s2 (s1).toNatClampNeg s0) (z_R G 1134 a0) (a2).toNatClampNeg (1 : Int32)), (a2 + (1 : Int32)))))))) else (z_gA G 1 (z_R G 1134 a0) a2 ((some (.inl ((z_sU (z_sU D s2 (s1).toNatClampNeg s0) (z_R G 1134 a0) (a2).toNatClampNeg (2 : Int32)), (a2 + (1 : Int32))))))))))))
set_option maxRecDepth 100000 in
set_option maxHeartbeats 4000000 in
theorem tj_X11_takeTrusted_L104_145 {q : z_Q} {X : z_X} {G : z_G} {D : z_D} {Q : State → Prop}  {a0 : Nat} {a2 : Int32} {s0 : Int32} {s1 : Int32} {s2 : Nat} (o : z_O q X cX11_takeTrusted 3 "FlashTrustModel" "takeTrusted" (some .boolean)) (hX : x_R X = z_rm 6 0 0) (hK0 : z_K G a0 = 111) {ρ : (z_D × Int32) ⊕ z_D} (h : j_X11_takeTrusted_L104_145 G D a0 a2 s0 s1 s2 = some ρ) (hk : k_X11_takeTrusted_104 q X Q G a0 ρ) : z_V q X 3 Q 0 0 G D 145 [(0, .ref (z_w q a0)), (2, .int a2)] [.int s0, .int s1, .ref (z_w q s2)] := by
  unfold j_X11_takeTrusted_L104_145 at h
  obtain ⟨n20, n21, h⟩ := z_gA_of h
  refine v_iast o n20 n21 dX11_takeTrusted_145 ?_
  refine v_aload_n o dX11_takeTrusted_146 rfl 0 rfl ?_
  obtain ⟨n22, h⟩ := z_gK_of h
  refine gt_11_34 o hK0 ln_5_129 (by rw [n22]; decide) dX11_takeTrusted_147 ?_
  refine v_iload_n o dX11_takeTrusted_150 rfl 1 rfl ?_
  refine v_iload_n o dX11_takeTrusted_151 rfl 1 rfl ?_
  refine v_iconst o (1 : Int32) dX11_takeTrusted_152 (by decide) ?_
  refine v_icmp_eq o 161 dX11_takeTrusted_153 (by decide) (fun c23 => ?_) (fun c23 => ?_)
  · replace h := z_ip c23 h
    refine v_iconst o (1 : Int32) dX11_takeTrusted_161 (by decide) ?_
    refine v_goto o 166 dX11_takeTrusted_162 (by decide) ?_
    obtain ⟨n24, n25, h⟩ := z_gA_of h
    refine v_iast o n24 n25 dX11_takeTrusted_166 ?_
    refine v_iinc o (a2 + (1 : Int32)) [(2, .int (a2 + (1 : Int32))), (0, .ref (z_w q a0))] dX11_takeTrusted_167 1 rfl rfl (by decide) rfl ?_
    refine v_goto o 104 dX11_takeTrusted_170 (by decide) ?_
    obtain rfl := z_some h
    refine v_sub [1, 0] rfl ?_
    exact hk
  · replace h := z_in c23 h
    refine v_iload_n o dX11_takeTrusted_156 rfl 1 rfl ?_
    refine v_iconst o (2 : Int32) dX11_takeTrusted_157 (by decide) ?_
    refine v_icmp_ne o 165 dX11_takeTrusted_158 (by decide) (fun c26 => ?_) (fun c26 => ?_)
    · replace h := z_in c26 h
      refine v_iconst o (2 : Int32) dX11_takeTrusted_165 (by decide) ?_
      obtain ⟨n27, n28, h⟩ := z_gA_of h
      refine v_iast o n27 n28 dX11_takeTrusted_166 ?_
      refine v_iinc o (a2 + (1 : Int32)) [(2, .int (a2 + (1 : Int32))), (0, .ref (z_w q a0))] dX11_takeTrusted_167 1 rfl rfl (by decide) rfl ?_
      refine v_goto o 104 dX11_takeTrusted_170 (by decide) ?_
      obtain rfl := z_some h
      refine v_sub [1, 0] rfl ?_
      exact hk
    · replace h := z_ip c26 h
      refine v_iconst o (1 : Int32) dX11_takeTrusted_161 (by decide) ?_
      refine v_goto o 166 dX11_takeTrusted_162 (by decide) ?_
      obtain ⟨n29, n30, h⟩ := z_gA_of h
      refine v_iast o n29 n30 dX11_takeTrusted_166 ?_
      refine v_iinc o (a2 + (1 : Int32)) [(2, .int (a2 + (1 : Int32))), (0, .ref (z_w q a0))] dX11_takeTrusted_167 1 rfl rfl (by decide) rfl ?_
      refine v_goto o 104 dX11_takeTrusted_170 (by decide) ?_
      obtain rfl := z_some h
      refine v_sub [1, 0] rfl ?_
      exact hk
def c_X11_takeTrusted_104 (G : z_G) (D : z_D) (a0 : Nat) (a2 : Int32) : Option ((z_D × Int32) ⊕ z_D) :=
  (if (4 : Int32) ≤ a2 then (some (.inr D)) else (z_gK G 1 (z_R G 1133 a0) ((if a2 = (0 : Int32) then ((j_X11_takeTrusted_L104_145 G D  a0 a2 (7 : Int32) a2 (z_R G 1133 a0))) else ((if a2 = (1 : Int32) then ((j_X11_takeTrusted_L104_145 G D  a0 a2 (8 : Int32) a2 (z_R G 1133 a0))) else ((if a2 = (2 : Int32) then ((j_X11_takeTrusted_L104_145 G D  a0 a2 (16 : Int32) a2 (z_R G 1133 a0))) else ((j_X11_takeTrusted_L104_145 G D  a0 a2 (96 : Int32) a2 (z_R G 1133 a0)))))))))))
set_option maxRecDepth 100000 in
set_option maxHeartbeats 4000000 in
theorem tc_X11_takeTrusted_104 {q : z_Q} {X : z_X} {G : z_G} {D : z_D} {Q : State → Prop} {a0 : Nat} {a2 : Int32} (o : z_O q X cX11_takeTrusted 3 "FlashTrustModel" "takeTrusted" (some .boolean)) (hX : x_R X = z_rm 6 0 0) (hK0 : z_K G a0 = 111) {ρ : (z_D × Int32) ⊕ z_D} (h : c_X11_takeTrusted_104 G D a0 a2 = some ρ) (hk : k_X11_takeTrusted_104 q X Q G a0 ρ) : z_V q X 3 Q 0 0 G D 104 [(0, .ref (z_w q a0)), (2, .int a2)] [] := by
  unfold c_X11_takeTrusted_104 at h
  refine v_iload_n o dX11_takeTrusted_104 rfl 1 rfl ?_
  refine v_iconst o (4 : Int32) dX11_takeTrusted_105 (by decide) ?_
  refine v_icmp_ge o 173 dX11_takeTrusted_106 (by decide) (fun c15 => ?_) (fun c15 => ?_)
  · replace h := z_ip c15 h
    obtain rfl := z_some h
    refine v_sub [] rfl ?_
    exact hk
  · replace h := z_in c15 h
    refine v_aload_n o dX11_takeTrusted_109 rfl 0 rfl ?_
    obtain ⟨n16, h⟩ := z_gK_of h
    refine gt_11_33 o hK0 ln_5_128 (by rw [n16]; decide) dX11_takeTrusted_110 ?_
    refine v_iload_n o dX11_takeTrusted_113 rfl 1 rfl ?_
    refine v_iload_n o dX11_takeTrusted_114 rfl 1 rfl ?_
    refine v_if_ne o 123 dX11_takeTrusted_115 (by decide) (fun c17 => ?_) (fun c17 => ?_)
    · replace h := z_in c17 h
      refine v_iload_n o dX11_takeTrusted_123 rfl 1 rfl ?_
      refine v_iconst o (1 : Int32) dX11_takeTrusted_124 (by decide) ?_
      refine v_icmp_ne o 133 dX11_takeTrusted_125 (by decide) (fun c18 => ?_) (fun c18 => ?_)
      · replace h := z_in c18 h
        refine v_iload_n o dX11_takeTrusted_133 rfl 1 rfl ?_
        refine v_iconst o (2 : Int32) dX11_takeTrusted_134 (by decide) ?_
        refine v_icmp_ne o 143 dX11_takeTrusted_135 (by decide) (fun c19 => ?_) (fun c19 => ?_)
        · replace h := z_in c19 h
          refine v_bipush o (96 : Int32) dX11_takeTrusted_143 (by decide) ?_
          exact tj_X11_takeTrusted_L104_145 o hX hK0 h hk
        · replace h := z_ip c19 h
          refine v_bipush o (16 : Int32) dX11_takeTrusted_138 (by decide) ?_
          refine v_goto o 145 dX11_takeTrusted_140 (by decide) ?_
          exact tj_X11_takeTrusted_L104_145 o hX hK0 h hk
      · replace h := z_ip c18 h
        refine v_bipush o (8 : Int32) dX11_takeTrusted_128 (by decide) ?_
        refine v_goto o 145 dX11_takeTrusted_130 (by decide) ?_
        exact tj_X11_takeTrusted_L104_145 o hX hK0 h hk
    · replace h := z_ip c17 h
      refine v_bipush o (7 : Int32) dX11_takeTrusted_118 (by decide) ?_
      refine v_goto o 145 dX11_takeTrusted_120 (by decide) ?_
      exact tj_X11_takeTrusted_L104_145 o hX hK0 h hk
def f_X11_takeTrusted (G : z_G) (D : z_D) (a0 : Nat) (a1 : Int32) : Option (Int32 × z_D) :=
  (f_X11_findRecord G D a0 a1).bind (fun D2 => (((z_loop (fun v => c_X11_takeTrusted_15 G v.1 a0 a1 v.2) 4000 ((z_sI D2 1126 a0 (z_I D2 1146 a0)), (0 : Int32))).bind (fun e10 => (if (z_I e10 1146 a0) ≤ (0 : Int32) then ((if a1 = (0 : Int32) then ((if (z_I e10 1144 a0) = (-2 : Int32) then (((z_loop (fun v => c_X11_takeTrusted_104 G v.1 a0 v.2) 4000 ((z_sI (z_sJ (z_sI (z_sI e10 1127 a0 (0 : Int32)) 1131 a0 (1 : Int32)) 1132 a0 (1000 : Int64)) 1130 a0 (0 : Int32)), (0 : Int32))).bind (fun e31 => (some ((1 : Int32), e31))))) else ((some ((0 : Int32), e10))))) else ((some ((0 : Int32), e10))))) else ((f_X11_readDoc G e10 a0).bind (fun p34 => (z_gB p34.1 ((some (p34.1, p34.2)))))))))))
set_option maxRecDepth 100000 in
set_option maxHeartbeats 4000000 in
theorem b_X11_takeTrusted {q : z_Q} {X : z_X} {G : z_G} {D : z_D} {a0 : Nat} {a1 : Int32} {r : Int32} {D1 : z_D} (o : z_O q X cX11_takeTrusted 3 "FlashTrustModel" "takeTrusted" (some .boolean)) (hX : x_R X = z_rm 6 0 0) (hK0 : z_K G a0 = 111) (h : f_X11_takeTrusted G D a0 a1 = some (r, D1)) : z_V q X 3 (z_F q X (some (.int r)) G D1 0 0) 0 0 G D 0 [(0, .ref (z_w q a0)), (1, .int a1)] [] := by
  unfold f_X11_takeTrusted at h
  refine v_aload_n o dX11_takeTrusted_0 rfl 0 rfl ?_
  refine v_iload_n o dX11_takeTrusted_1 rfl 1 rfl ?_
  obtain ⟨D2, he1, h⟩ := z_bind h
  refine v_callV o yw_X11_findRecord ln_6_174 wi_X11_findRecord ws_X11_findRecord hX (by decide) 11 rfl hK0 (As := [.int a1]) rfl rfl (Nat.le_of_ble_eq_true rfl) (e_X11_findRecord hK0 he1) dX11_takeTrusted_2 ?_
  refine v_aload_n o dX11_takeTrusted_5 rfl 0 rfl ?_
  refine v_aload_n o dX11_takeTrusted_6 rfl 0 rfl ?_
  refine gt_11_46 o hK0 ln_5_141 dX11_takeTrusted_7 ?_
  refine pt_11_26 o hK0 ln_5_121 dX11_takeTrusted_10 ?_
  refine v_iconst o (0 : Int32) dX11_takeTrusted_13 (by decide) ?_
  refine v_istore_n o [(2, .int (0 : Int32)), (0, .ref (z_w q a0)), (1, .int a1)] dX11_takeTrusted_14 rfl (by decide) rfl ?_
  refine v_sub [1, 2, 0] rfl ?_
  obtain ⟨e10, he11, h⟩ := z_bind h
  refine z_loopV (P := p_X11_takeTrusted_15 q X _ G a0 a1) (E := x_X11_takeTrusted_15 q X _ G a0 a1) (fun v ρ hb hk => tc_X11_takeTrusted_15 (D := v.1) (a0 := a0) (a1 := a1) (a2 := v.2) o hX hK0 hb hk) 4000 _ e10 he11 ?_
  show z_V q X 3 _ _ _ G e10 53 [(0, .ref (z_w q a0)), (1, .int a1)] []
  refine v_aload_n o dX11_takeTrusted_53 rfl 0 rfl ?_
  refine gt_11_46 o hK0 ln_5_141 dX11_takeTrusted_54 ?_
  refine v_if_le o 65 dX11_takeTrusted_57 (by decide) (fun c12 => ?_) (fun c12 => ?_)
  · replace h := z_ip c12 h
    refine v_iload_n o dX11_takeTrusted_65 rfl 1 rfl ?_
    refine v_if_ne o 78 dX11_takeTrusted_66 (by decide) (fun c13 => ?_) (fun c13 => ?_)
    · replace h := z_in c13 h
      refine v_iconst o (0 : Int32) dX11_takeTrusted_78 (by decide) ?_
      obtain ⟨hr, hs⟩ := Prod.mk.inj (z_some h)
      subst hr
      subst hs
      exact v_zreturn o (by decide) dX11_takeTrusted_79
    · replace h := z_ip c13 h
      refine v_aload_n o dX11_takeTrusted_69 rfl 0 rfl ?_
      refine gt_11_44 o hK0 ln_5_139 dX11_takeTrusted_70 ?_
      refine v_bipush o (-2 : Int32) dX11_takeTrusted_73 (by decide) ?_
      refine v_icmp_eq o 80 dX11_takeTrusted_75 (by decide) (fun c14 => ?_) (fun c14 => ?_)
      · replace h := z_ip c14 h
        refine v_aload_n o dX11_takeTrusted_80 rfl 0 rfl ?_
        refine v_iconst o (0 : Int32) dX11_takeTrusted_81 (by decide) ?_
        refine pt_11_27 o hK0 ln_5_122 dX11_takeTrusted_82 ?_
        refine v_aload_n o dX11_takeTrusted_85 rfl 0 rfl ?_
        refine v_iconst o (1 : Int32) dX11_takeTrusted_86 (by decide) ?_
        refine pt_11_31 o hK0 ln_5_126 dX11_takeTrusted_87 ?_
        refine v_aload_n o dX11_takeTrusted_90 rfl 0 rfl ?_
        refine v_ldc2 o ln_6_182 dX11_takeTrusted_91 ?_
        refine pt_11_32 o hK0 ln_5_127 dX11_takeTrusted_94 ?_
        refine v_aload_n o dX11_takeTrusted_97 rfl 0 rfl ?_
        refine v_iconst o (0 : Int32) dX11_takeTrusted_98 (by decide) ?_
        refine pt_11_30 o hK0 ln_5_125 dX11_takeTrusted_99 ?_
        refine v_iconst o (0 : Int32) dX11_takeTrusted_102 (by decide) ?_
        refine v_istore_n o [(2, .int (0 : Int32)), (0, .ref (z_w q a0)), (1, .int a1)] dX11_takeTrusted_103 rfl (by decide) rfl ?_
        refine v_sub [1, 0] rfl ?_
        obtain ⟨e31, he32, h⟩ := z_bind h
        refine z_loopV (P := p_X11_takeTrusted_104 q X _ G a0) (E := x_X11_takeTrusted_104 q X _ G a0) (fun v ρ hb hk => tc_X11_takeTrusted_104 (D := v.1) (a0 := a0) (a2 := v.2) o hX hK0 hb hk) 4000 _ e31 he32 ?_
        show z_V q X 3 _ _ _ G e31 173 [] []
        refine v_iconst o (1 : Int32) dX11_takeTrusted_173 (by decide) ?_
        obtain ⟨hr, hs⟩ := Prod.mk.inj (z_some h)
        subst hr
        subst hs
        exact v_zreturn o (by decide) dX11_takeTrusted_174
      · replace h := z_in c14 h
        refine v_iconst o (0 : Int32) dX11_takeTrusted_78 (by decide) ?_
        obtain ⟨hr, hs⟩ := Prod.mk.inj (z_some h)
        subst hr
        subst hs
        exact v_zreturn o (by decide) dX11_takeTrusted_79
  · replace h := z_in c12 h
    refine v_aload_n o dX11_takeTrusted_60 rfl 0 rfl ?_
    obtain ⟨p34, he33, h⟩ := z_bind h
    refine v_callV o yw_X11_readDoc ln_6_141 wi_X11_readDoc ws_X11_readDoc hX (by decide) 11 rfl hK0 (As := []) rfl rfl (Nat.le_of_ble_eq_true rfl) (e_X11_readDoc hK0 he33) dX11_takeTrusted_61 ?_
    obtain ⟨n35, h⟩ := z_gB_of h
    obtain ⟨hr, hs⟩ := Prod.mk.inj (z_some h)
    subst hr
    subst hs
    exact v_zreturn o (z_nb n35) dX11_takeTrusted_64
theorem e_X11_takeTrusted {q : z_Q} {l : Launch} {G : z_G} {D : z_D} {a0 : Nat} {a1 : Int32} {r : Int32} {D1 : z_D} (hK0 : z_K G a0 = 111) (h : f_X11_takeTrusted G D a0 a1 = some (r, D1)) : z_E q l yX11_takeTrusted cX11_takeTrusted 3 (some .boolean) 6 0 0 [.ref (z_w q a0), .int a1] G D (some (.int r)) G D1 :=
  z_E.of (by decide) (Nat.le_of_ble_eq_true rfl) (fun X hX _ o => b_X11_takeTrusted o hX hK0 h)
def p_X11_keepRecord_42 (q : z_Q) (X : z_X) (Q : State → Prop) (G : z_G) (a0 : Nat) (a2 : Int32) (a3 : Int32) (a4 : Int32) : (z_D × Int32) → Prop := (fun v => z_V q X 9 Q 0 0 G v.1 42 [(0, .ref (z_w q a0)), (2, .int a2), (3, .int a3), (4, .int a4), (5, .int v.2)] [])
def x_X11_keepRecord_42 (q : z_Q) (X : z_X) (Q : State → Prop) (G : z_G) (a0 : Nat) (a2 : Int32) (a3 : Int32) (a4 : Int32) : z_D → Prop := (fun v => z_V q X 9 Q 0 0 G v 76 [(0, .ref (z_w q a0)), (2, .int a2), (3, .int a3)] [])
def k_X11_keepRecord_42 (q : z_Q) (X : z_X) (Q : State → Prop) (G : z_G) (a0 : Nat) (a2 : Int32) (a3 : Int32) (a4 : Int32) : (z_D × Int32) ⊕ z_D → Prop := Sum.elim (p_X11_keepRecord_42 q X Q G a0 a2 a3 a4) (x_X11_keepRecord_42 q X Q G a0 a2 a3 a4)
def c_X11_keepRecord_42 (G : z_G) (D : z_D) (a0 : Nat) (a2 : Int32) (a3 : Int32) (a4 : Int32) (a5 : Int32) : Option ((z_D × Int32) ⊕ z_D) :=
  (if (4 : Int32) ≤ a5 then (some (.inr D)) else (z_gK G 1 (z_R G 1147 a0) (z_gA G 1 (z_R G 1147 a0) a5 ((some (.inl ((z_sU D (z_R G 1147 a0) (a5).toNatClampNeg ((a4 >>> (((24 : Int32) - ((8 : Int32) * a5)) &&& 31)) &&& (255 : Int32))), (a5 + (1 : Int32)))))))))
set_option maxRecDepth 100000 in
set_option maxHeartbeats 4000000 in
theorem tc_X11_keepRecord_42 {q : z_Q} {X : z_X} {G : z_G} {D : z_D} {Q : State → Prop} {a0 : Nat} {a2 : Int32} {a3 : Int32} {a4 : Int32} {a5 : Int32} (o : z_O q X cX11_keepRecord 9 "FlashTrustModel" "keepRecord" none) (hX : x_R X = z_rm 6 0 0) (hK0 : z_K G a0 = 111) {ρ : (z_D × Int32) ⊕ z_D} (h : c_X11_keepRecord_42 G D a0 a2 a3 a4 a5 = some ρ) (hk : k_X11_keepRecord_42 q X Q G a0 a2 a3 a4 ρ) : z_V q X 9 Q 0 0 G D 42 [(0, .ref (z_w q a0)), (2, .int a2), (3, .int a3), (4, .int a4), (5, .int a5)] [] := by
  unfold c_X11_keepRecord_42 at h
  refine v_iload o dX11_keepRecord_42 4 rfl ?_
  refine v_iconst o (4 : Int32) dX11_keepRecord_44 (by decide) ?_
  refine v_icmp_ge o 76 dX11_keepRecord_45 (by decide) (fun c4 => ?_) (fun c4 => ?_)
  · replace h := z_ip c4 h
    obtain rfl := z_some h
    refine v_sub [0, 1, 2] rfl ?_
    exact hk
  · replace h := z_in c4 h
    refine v_aload_n o dX11_keepRecord_48 rfl 0 rfl ?_
    obtain ⟨n5, h⟩ := z_gK_of h
    refine gt_11_47 o hK0 ln_5_142 (by rw [n5]; decide) dX11_keepRecord_49 ?_
    refine v_iload o dX11_keepRecord_52 4 rfl ?_
    refine v_iload o dX11_keepRecord_54 3 rfl ?_
    refine v_bipush o (24 : Int32) dX11_keepRecord_56 (by decide) ?_
    refine v_bipush o (8 : Int32) dX11_keepRecord_58 (by decide) ?_
    refine v_iload o dX11_keepRecord_60 4 rfl ?_
    refine v_imul o dX11_keepRecord_62 ?_
    refine v_isub o dX11_keepRecord_63 ?_
    refine v_ishr o dX11_keepRecord_64 ?_
    refine v_sipush o (255 : Int32) dX11_keepRecord_65 (by decide) ?_
    refine v_iand o dX11_keepRecord_68 ?_
    obtain ⟨n6, n7, h⟩ := z_gA_of h
    refine v_iast o n6 n7 dX11_keepRecord_69 ?_
    refine v_iinc o (a5 + (1 : Int32)) [(5, .int (a5 + (1 : Int32))), (0, .ref (z_w q a0)), (2, .int a2), (3, .int a3), (4, .int a4)] dX11_keepRecord_70 4 rfl rfl (by decide) rfl ?_
    refine v_goto o 42 dX11_keepRecord_73 (by decide) ?_
    obtain rfl := z_some h
    refine v_sub [1, 2, 3, 4, 0] rfl ?_
    exact hk
def p_X11_keepRecord_104 (q : z_Q) (X : z_X) (Q : State → Prop) (G : z_G) (a0 : Nat) (a2 : Int32) (a3 : Int32) : (z_D × Int32) → Prop := (fun v => z_V q X 9 Q 0 0 G v.1 104 [(0, .ref (z_w q a0)), (2, .int a2), (3, .int a3), (5, .int v.2)] [])
def x_X11_keepRecord_104 (q : z_Q) (X : z_X) (Q : State → Prop) (G : z_G) (a0 : Nat) (a2 : Int32) (a3 : Int32) : z_D → Prop := (fun v => z_V q X 9 Q 0 0 G v 130 [(0, .ref (z_w q a0)), (2, .int a2), (3, .int a3)] [])
def k_X11_keepRecord_104 (q : z_Q) (X : z_X) (Q : State → Prop) (G : z_G) (a0 : Nat) (a2 : Int32) (a3 : Int32) : (z_D × Int32) ⊕ z_D → Prop := Sum.elim (p_X11_keepRecord_104 q X Q G a0 a2 a3) (x_X11_keepRecord_104 q X Q G a0 a2 a3)
def c_X11_keepRecord_104 (G : z_G) (D : z_D) (a0 : Nat) (a2 : Int32) (a3 : Int32) (a5 : Int32) : Option ((z_D × Int32) ⊕ z_D) :=
  (if ((6 : Int32) + a2) ≤ a5 then (some (.inr D)) else (z_gK G 1 (z_R G 1147 a0) (z_gA G 1 (z_R G 1147 a0) a5 ((f_X11_digestByte G D a0 (z_U D (z_R G 1147 a0) (a5).toNatClampNeg)).bind (fun D22 => ((some (.inl (D22, (a5 + (1 : Int32)))))))))))
set_option maxRecDepth 100000 in
set_option maxHeartbeats 4000000 in
theorem tc_X11_keepRecord_104 {q : z_Q} {X : z_X} {G : z_G} {D : z_D} {Q : State → Prop} {a0 : Nat} {a2 : Int32} {a3 : Int32} {a5 : Int32} (o : z_O q X cX11_keepRecord 9 "FlashTrustModel" "keepRecord" none) (hX : x_R X = z_rm 6 0 0) (hK0 : z_K G a0 = 111) {ρ : (z_D × Int32) ⊕ z_D} (h : c_X11_keepRecord_104 G D a0 a2 a3 a5 = some ρ) (hk : k_X11_keepRecord_104 q X Q G a0 a2 a3 ρ) : z_V q X 9 Q 0 0 G D 104 [(0, .ref (z_w q a0)), (2, .int a2), (3, .int a3), (5, .int a5)] [] := by
  unfold c_X11_keepRecord_104 at h
  refine v_iload o dX11_keepRecord_104 3 rfl ?_
  refine v_bipush o (6 : Int32) dX11_keepRecord_106 (by decide) ?_
  refine v_iload_n o dX11_keepRecord_108 rfl 1 rfl ?_
  refine v_iadd o dX11_keepRecord_109 ?_
  refine v_icmp_ge o 130 dX11_keepRecord_110 (by decide) (fun c17 => ?_) (fun c17 => ?_)
  · replace h := z_ip c17 h
    obtain rfl := z_some h
    refine v_sub [0, 1, 2] rfl ?_
    exact hk
  · replace h := z_in c17 h
    refine v_aload_n o dX11_keepRecord_113 rfl 0 rfl ?_
    refine v_aload_n o dX11_keepRecord_114 rfl 0 rfl ?_
    obtain ⟨n18, h⟩ := z_gK_of h
    refine gt_11_47 o hK0 ln_5_142 (by rw [n18]; decide) dX11_keepRecord_115 ?_
    refine v_iload o dX11_keepRecord_118 3 rfl ?_
    obtain ⟨n19, n20, h⟩ := z_gA_of h
    refine v_iald o n19 n20 dX11_keepRecord_120 ?_
    obtain ⟨D22, he21, h⟩ := z_bind h
    refine v_callV o yw_X11_digestByte ln_5_57 wi_X11_digestByte ws_X11_digestByte hX (by decide) 11 rfl hK0 (As := [.int (z_U D (z_R G 1147 a0) (a5).toNatClampNeg)]) rfl rfl (Nat.le_of_ble_eq_true rfl) (e_X11_digestByte hK0 he21) dX11_keepRecord_121 ?_
    refine v_iinc o (a5 + (1 : Int32)) [(5, .int (a5 + (1 : Int32))), (0, .ref (z_w q a0)), (2, .int a2), (3, .int a3)] dX11_keepRecord_124 3 rfl rfl (by decide) rfl ?_
    refine v_goto o 104 dX11_keepRecord_127 (by decide) ?_
    obtain rfl := z_some h
    refine v_sub [1, 2, 3, 0] rfl ?_
    exact hk
def p_X11_keepRecord_139 (q : z_Q) (X : z_X) (Q : State → Prop) (G : z_G) (a0 : Nat) (a2 : Int32) (a3 : Int32) (a5 : Int32) : (z_D × Int32) → Prop := (fun v => z_V q X 9 Q 0 0 G v.1 139 [(0, .ref (z_w q a0)), (2, .int a2), (3, .int a3), (5, .int a5), (6, .int v.2)] [])
def x_X11_keepRecord_139 (q : z_Q) (X : z_X) (Q : State → Prop) (G : z_G) (a0 : Nat) (a2 : Int32) (a3 : Int32) (a5 : Int32) : z_D → Prop := (fun v => z_V q X 9 Q 0 0 G v 178 [(0, .ref (z_w q a0)), (2, .int a2), (3, .int a3)] [])
def k_X11_keepRecord_139 (q : z_Q) (X : z_X) (Q : State → Prop) (G : z_G) (a0 : Nat) (a2 : Int32) (a3 : Int32) (a5 : Int32) : (z_D × Int32) ⊕ z_D → Prop := Sum.elim (p_X11_keepRecord_139 q X Q G a0 a2 a3 a5) (x_X11_keepRecord_139 q X Q G a0 a2 a3 a5)
def c_X11_keepRecord_139 (G : z_G) (D : z_D) (a0 : Nat) (a2 : Int32) (a3 : Int32) (a5 : Int32) (a6 : Int32) : Option ((z_D × Int32) ⊕ z_D) :=
  (if (4 : Int32) ≤ a6 then (some (.inr D)) else (z_gK G 1 (z_R G 1147 a0) (z_gA G 1 (z_R G 1147 a0) (((6 : Int32) + a2) + a6) ((some (.inl ((z_sU D (z_R G 1147 a0) ((((6 : Int32) + a2) + a6)).toNatClampNeg ((a5 >>> (((24 : Int32) - ((8 : Int32) * a6)) &&& 31)) &&& (255 : Int32))), (a6 + (1 : Int32)))))))))
set_option maxRecDepth 100000 in
set_option maxHeartbeats 4000000 in
theorem tc_X11_keepRecord_139 {q : z_Q} {X : z_X} {G : z_G} {D : z_D} {Q : State → Prop} {a0 : Nat} {a2 : Int32} {a3 : Int32} {a5 : Int32} {a6 : Int32} (o : z_O q X cX11_keepRecord 9 "FlashTrustModel" "keepRecord" none) (hX : x_R X = z_rm 6 0 0) (hK0 : z_K G a0 = 111) {ρ : (z_D × Int32) ⊕ z_D} (h : c_X11_keepRecord_139 G D a0 a2 a3 a5 a6 = some ρ) (hk : k_X11_keepRecord_139 q X Q G a0 a2 a3 a5 ρ) : z_V q X 9 Q 0 0 G D 139 [(0, .ref (z_w q a0)), (2, .int a2), (3, .int a3), (5, .int a5), (6, .int a6)] [] := by
  unfold c_X11_keepRecord_139 at h
  refine v_iload o dX11_keepRecord_139 4 rfl ?_
  refine v_iconst o (4 : Int32) dX11_keepRecord_141 (by decide) ?_
  refine v_icmp_ge o 178 dX11_keepRecord_142 (by decide) (fun c27 => ?_) (fun c27 => ?_)
  · replace h := z_ip c27 h
    obtain rfl := z_some h
    refine v_sub [0, 1, 2] rfl ?_
    exact hk
  · replace h := z_in c27 h
    refine v_aload_n o dX11_keepRecord_145 rfl 0 rfl ?_
    obtain ⟨n28, h⟩ := z_gK_of h
    refine gt_11_47 o hK0 ln_5_142 (by rw [n28]; decide) dX11_keepRecord_146 ?_
    refine v_bipush o (6 : Int32) dX11_keepRecord_149 (by decide) ?_
    refine v_iload_n o dX11_keepRecord_151 rfl 1 rfl ?_
    refine v_iadd o dX11_keepRecord_152 ?_
    refine v_iload o dX11_keepRecord_153 4 rfl ?_
    refine v_iadd o dX11_keepRecord_155 ?_
    refine v_iload o dX11_keepRecord_156 3 rfl ?_
    refine v_bipush o (24 : Int32) dX11_keepRecord_158 (by decide) ?_
    refine v_bipush o (8 : Int32) dX11_keepRecord_160 (by decide) ?_
    refine v_iload o dX11_keepRecord_162 4 rfl ?_
    refine v_imul o dX11_keepRecord_164 ?_
    refine v_isub o dX11_keepRecord_165 ?_
    refine v_ishr o dX11_keepRecord_166 ?_
    refine v_sipush o (255 : Int32) dX11_keepRecord_167 (by decide) ?_
    refine v_iand o dX11_keepRecord_170 ?_
    obtain ⟨n29, n30, h⟩ := z_gA_of h
    refine v_iast o n29 n30 dX11_keepRecord_171 ?_
    refine v_iinc o (a6 + (1 : Int32)) [(6, .int (a6 + (1 : Int32))), (0, .ref (z_w q a0)), (2, .int a2), (3, .int a3), (5, .int a5)] dX11_keepRecord_172 4 rfl rfl (by decide) rfl ?_
    refine v_goto o 139 dX11_keepRecord_175 (by decide) ?_
    obtain rfl := z_some h
    refine v_sub [1, 2, 3, 4, 0] rfl ?_
    exact hk
def p_X11_keepRecord_192 (q : z_Q) (X : z_X) (Q : State → Prop) (G : z_G) (a0 : Nat) (a3 : Int32) (a6 : Int32) : (z_D × Int32) → Prop := (fun v => z_V q X 9 Q 0 0 G v.1 192 [(0, .ref (z_w q a0)), (3, .int a3), (6, .int a6), (7, .int v.2)] [])
def x_X11_keepRecord_192 (q : z_Q) (X : z_X) (Q : State → Prop) (G : z_G) (a0 : Nat) (a3 : Int32) (a6 : Int32) : z_D → Prop := (fun v => z_V q X 9 Q 0 0 G v 266 [] [])
def k_X11_keepRecord_192 (q : z_Q) (X : z_X) (Q : State → Prop) (G : z_G) (a0 : Nat) (a3 : Int32) (a6 : Int32) : (z_D × Int32) ⊕ z_D → Prop := Sum.elim (p_X11_keepRecord_192 q X Q G a0 a3 a6) (x_X11_keepRecord_192 q X Q G a0 a3 a6)
def p_X11_keepRecord_202 (q : z_Q) (X : z_X) (Q : State → Prop) (G : z_G) (a0 : Nat) (a3 : Int32) (a6 : Int32) (a7 : Int32) : (z_D × Int32) → Prop := (fun v => z_V q X 9 Q 0 0 G v.1 202 [(0, .ref (z_w q a0)), (3, .int a3), (6, .int a6), (7, .int a7), (8, .int v.2)] [])
def x_X11_keepRecord_202 (q : z_Q) (X : z_X) (Q : State → Prop) (G : z_G) (a0 : Nat) (a3 : Int32) (a6 : Int32) (a7 : Int32) : z_D → Prop := (fun v => z_V q X 9 Q 0 0 G v 248 [(0, .ref (z_w q a0)), (3, .int a3), (6, .int a6), (7, .int a7)] [])
def k_X11_keepRecord_202 (q : z_Q) (X : z_X) (Q : State → Prop) (G : z_G) (a0 : Nat) (a3 : Int32) (a6 : Int32) (a7 : Int32) : (z_D × Int32) ⊕ z_D → Prop := Sum.elim (p_X11_keepRecord_202 q X Q G a0 a3 a6 a7) (x_X11_keepRecord_202 q X Q G a0 a3 a6 a7)
def c_X11_keepRecord_202 (G : z_G) (D : z_D) (a0 : Nat) (a3 : Int32) (a6 : Int32) (a7 : Int32) (a8 : Int32) : Option ((z_D × Int32) ⊕ z_D) :=
  (if (32 : Int32) ≤ a8 then (some (.inr D)) else (z_gK G 1 (z_R G 1113 a0) ((if a6 ≤ (a7 + a8) then (z_gA G 1 (z_R G 1113 a0) a8 ((some (.inl ((z_sU D (z_R G 1113 a0) (a8).toNatClampNeg (255 : Int32)), (a8 + (1 : Int32))))))) else (z_gK G 1 (z_R G 1147 a0) (z_gA G 1 (z_R G 1147 a0) (a7 + a8) ((z_gA G 1 (z_R G 1113 a0) a8 ((some (.inl ((z_sU D (z_R G 1113 a0) (a8).toNatClampNeg (z_U D (z_R G 1147 a0) ((a7 + a8)).toNatClampNeg)), (a8 + (1 : Int32))))))))))))))
set_option maxRecDepth 100000 in
set_option maxHeartbeats 4000000 in
theorem tc_X11_keepRecord_202 {q : z_Q} {X : z_X} {G : z_G} {D : z_D} {Q : State → Prop} {a0 : Nat} {a3 : Int32} {a6 : Int32} {a7 : Int32} {a8 : Int32} (o : z_O q X cX11_keepRecord 9 "FlashTrustModel" "keepRecord" none) (hX : x_R X = z_rm 6 0 0) (hK0 : z_K G a0 = 111) {ρ : (z_D × Int32) ⊕ z_D} (h : c_X11_keepRecord_202 G D a0 a3 a6 a7 a8 = some ρ) (hk : k_X11_keepRecord_202 q X Q G a0 a3 a6 a7 ρ) : z_V q X 9 Q 0 0 G D 202 [(0, .ref (z_w q a0)), (3, .int a3), (6, .int a6), (7, .int a7), (8, .int a8)] [] := by
  unfold c_X11_keepRecord_202 at h
  refine v_iload o dX11_keepRecord_202 4 rfl ?_
  refine v_bipush o (32 : Int32) dX11_keepRecord_204 (by decide) ?_
  refine v_icmp_ge o 248 dX11_keepRecord_206 (by decide) (fun c36 => ?_) (fun c36 => ?_)
  · replace h := z_ip c36 h
    obtain rfl := z_some h
    refine v_sub [0, 1, 2, 3] rfl ?_
    exact hk
  · replace h := z_in c36 h
    refine v_aload_n o dX11_keepRecord_209 rfl 0 rfl ?_
    obtain ⟨n37, h⟩ := z_gK_of h
    refine gt_11_13 o hK0 ln_5_108 (by rw [n37]; decide) dX11_keepRecord_210 ?_
    refine v_iload o dX11_keepRecord_213 4 rfl ?_
    refine v_iload o dX11_keepRecord_215 3 rfl ?_
    refine v_iload o dX11_keepRecord_217 4 rfl ?_
    refine v_iadd o dX11_keepRecord_219 ?_
    refine v_iload o dX11_keepRecord_220 2 rfl ?_
    refine v_icmp_ge o 238 dX11_keepRecord_222 (by decide) (fun c38 => ?_) (fun c38 => ?_)
    · replace h := z_ip c38 h
      refine v_sipush o (255 : Int32) dX11_keepRecord_238 (by decide) ?_
      obtain ⟨n39, n40, h⟩ := z_gA_of h
      refine v_iast o n39 n40 dX11_keepRecord_241 ?_
      refine v_iinc o (a8 + (1 : Int32)) [(8, .int (a8 + (1 : Int32))), (0, .ref (z_w q a0)), (3, .int a3), (6, .int a6), (7, .int a7)] dX11_keepRecord_242 4 rfl rfl (by decide) rfl ?_
      refine v_goto o 202 dX11_keepRecord_245 (by decide) ?_
      obtain rfl := z_some h
      refine v_sub [1, 2, 3, 4, 0] rfl ?_
      exact hk
    · replace h := z_in c38 h
      refine v_aload_n o dX11_keepRecord_225 rfl 0 rfl ?_
      obtain ⟨n41, h⟩ := z_gK_of h
      refine gt_11_47 o hK0 ln_5_142 (by rw [n41]; decide) dX11_keepRecord_226 ?_
      refine v_iload o dX11_keepRecord_229 3 rfl ?_
      refine v_iload o dX11_keepRecord_231 4 rfl ?_
      refine v_iadd o dX11_keepRecord_233 ?_
      obtain ⟨n42, n43, h⟩ := z_gA_of h
      refine v_iald o n42 n43 dX11_keepRecord_234 ?_
      refine v_goto o 241 dX11_keepRecord_235 (by decide) ?_
      obtain ⟨n44, n45, h⟩ := z_gA_of h
      refine v_iast o n44 n45 dX11_keepRecord_241 ?_
      refine v_iinc o (a8 + (1 : Int32)) [(8, .int (a8 + (1 : Int32))), (0, .ref (z_w q a0)), (3, .int a3), (6, .int a6), (7, .int a7)] dX11_keepRecord_242 4 rfl rfl (by decide) rfl ?_
      refine v_goto o 202 dX11_keepRecord_245 (by decide) ?_
      obtain rfl := z_some h
      refine v_sub [1, 2, 3, 4, 0] rfl ?_
      exact hk
def c_X11_keepRecord_192 (G : z_G) (D : z_D) (a0 : Nat) (a3 : Int32) (a6 : Int32) (a7 : Int32) : Option ((z_D × Int32) ⊕ z_D) :=
  (if a6 ≤ a7 then (some (.inr D)) else (((z_loop (fun v => c_X11_keepRecord_202 G v.1 a0 a3 a6 a7 v.2) 4000 (D, (0 : Int32))).bind (fun e46 => (f_X11_writePage G e46 a0 (((128 : Int32) * a3) + a7)).bind (fun D49 => ((some (.inl (D49, (a7 + (32 : Int32)))))))))))
set_option maxRecDepth 100000 in
set_option maxHeartbeats 4000000 in
theorem tc_X11_keepRecord_192 {q : z_Q} {X : z_X} {G : z_G} {D : z_D} {Q : State → Prop} {a0 : Nat} {a3 : Int32} {a6 : Int32} {a7 : Int32} (o : z_O q X cX11_keepRecord 9 "FlashTrustModel" "keepRecord" none) (hX : x_R X = z_rm 6 0 0) (hK0 : z_K G a0 = 111) {ρ : (z_D × Int32) ⊕ z_D} (h : c_X11_keepRecord_192 G D a0 a3 a6 a7 = some ρ) (hk : k_X11_keepRecord_192 q X Q G a0 a3 a6 ρ) : z_V q X 9 Q 0 0 G D 192 [(0, .ref (z_w q a0)), (3, .int a3), (6, .int a6), (7, .int a7)] [] := by
  unfold c_X11_keepRecord_192 at h
  refine v_iload o dX11_keepRecord_192 3 rfl ?_
  refine v_iload o dX11_keepRecord_194 2 rfl ?_
  refine v_icmp_ge o 266 dX11_keepRecord_196 (by decide) (fun c35 => ?_) (fun c35 => ?_)
  · replace h := z_ip c35 h
    obtain rfl := z_some h
    refine v_sub [] rfl ?_
    exact hk
  · replace h := z_in c35 h
    refine v_iconst o (0 : Int32) dX11_keepRecord_199 (by decide) ?_
    refine v_istore o [(8, .int (0 : Int32)), (0, .ref (z_w q a0)), (3, .int a3), (6, .int a6), (7, .int a7)] dX11_keepRecord_200 (by decide) rfl ?_
    refine v_sub [1, 2, 3, 4, 0] rfl ?_
    obtain ⟨e46, he47, h⟩ := z_bind h
    refine z_loopV (P := p_X11_keepRecord_202 q X _ G a0 a3 a6 a7) (E := x_X11_keepRecord_202 q X _ G a0 a3 a6 a7) (fun v ρ hb hk => tc_X11_keepRecord_202 (D := v.1) (a0 := a0) (a3 := a3) (a6 := a6) (a7 := a7) (a8 := v.2) o hX hK0 hb hk) 4000 _ e46 he47 ?_
    show z_V q X 9 _ _ _ G e46 248 [(0, .ref (z_w q a0)), (3, .int a3), (6, .int a6), (7, .int a7)] []
    refine v_aload_n o dX11_keepRecord_248 rfl 0 rfl ?_
    refine v_sipush o (128 : Int32) dX11_keepRecord_249 (by decide) ?_
    refine v_iload_n o dX11_keepRecord_252 rfl 1 rfl ?_
    refine v_imul o dX11_keepRecord_253 ?_
    refine v_iload o dX11_keepRecord_254 3 rfl ?_
    refine v_iadd o dX11_keepRecord_256 ?_
    obtain ⟨D49, he48, h⟩ := z_bind h
    refine v_callV o yw_X11_writePage ln_6_121 wi_X11_writePage ws_X11_writePage hX (by decide) 11 rfl hK0 (As := [.int (((128 : Int32) * a3) + a7)]) rfl rfl (Nat.le_of_ble_eq_true rfl) (e_X11_writePage hK0 he48) dX11_keepRecord_257 ?_
    refine v_iinc o (a7 + (32 : Int32)) [(7, .int (a7 + (32 : Int32))), (0, .ref (z_w q a0)), (3, .int a3), (6, .int a6)] dX11_keepRecord_260 3 rfl rfl (by decide) rfl ?_
    refine v_goto o 192 dX11_keepRecord_263 (by decide) ?_
    obtain rfl := z_some h
    refine v_sub [1, 2, 3, 0] rfl ?_
    exact hk
def j_X11_keepRecord_30 (G : z_G) (D : z_D) (a0 : Nat) (a2 : Int32) (s0 : Int32) : Option (z_D) :=
  ((z_loop (fun v => c_X11_keepRecord_42 G v.1 a0 a2 s0 ((z_I D 1145 a0) + (1 : Int32)) v.2) 4000 (D, (0 : Int32))).bind (fun e8 => z_gK G 1 (z_R G 1147 a0) (z_gA G 1 (z_R G 1147 a0) (4 : Int32) (z_gA G 1 (z_R G 1147 a0) (5 : Int32) ((f_X11_digestBegin G (z_sU (z_sU e8 (z_R G 1147 a0) ((4 : Int32)).toNatClampNeg (a2 >>> ((8 : Int32) &&& 31))) (z_R G 1147 a0) ((5 : Int32)).toNatClampNeg (a2 &&& (255 : Int32))) a0).bind (fun D16 => (((z_loop (fun v => c_X11_keepRecord_104 G v.1 a0 a2 s0 v.2) 4000 (D16, (0 : Int32))).bind (fun e23 => (f_X11_checkNow G e23 a0).bind (fun r26 => (((z_loop (fun v => c_X11_keepRecord_139 G v.1 a0 a2 s0 r26 v.2) 4000 (e23, (0 : Int32))).bind (fun e31 => (f_X11_erase G e31 a0 s0).bind (fun D34 => (((z_loop (fun v => c_X11_keepRecord_192 G v.1 a0 s0 ((10 : Int32) + a2) v.2) 4000 (D34, (0 : Int32))).bind (fun e50 => (some e50))))))))))))))))))
set_option maxRecDepth 100000 in
set_option maxHeartbeats 4000000 in
theorem tj_X11_keepRecord_30 {q : z_Q} {X : z_X} {G : z_G} {D : z_D} {a0 : Nat} {a2 : Int32} {s0 : Int32}  {D1 : z_D} (o : z_O q X cX11_keepRecord 9 "FlashTrustModel" "keepRecord" none) (hX : x_R X = z_rm 6 0 0) (hK0 : z_K G a0 = 111) (h : j_X11_keepRecord_30 G D a0 a2 s0 = some D1) : z_V q X 9 (z_F q X none G D1 0 0) 0 0 G D 30 [(0, .ref (z_w q a0)), (2, .int a2)] [.int s0] := by
  unfold j_X11_keepRecord_30 at h
  refine v_istore_n o [(3, .int s0), (0, .ref (z_w q a0)), (2, .int a2)] dX11_keepRecord_30 rfl (by decide) rfl ?_
  refine v_aload_n o dX11_keepRecord_31 rfl 1 rfl ?_
  refine gt_11_45 o hK0 ln_5_140 dX11_keepRecord_32 ?_
  refine v_iconst o (1 : Int32) dX11_keepRecord_35 (by decide) ?_
  refine v_iadd o dX11_keepRecord_36 ?_
  refine v_istore o [(4, .int ((z_I D 1145 a0) + (1 : Int32))), (3, .int s0), (0, .ref (z_w q a0)), (2, .int a2)] dX11_keepRecord_37 (by decide) rfl ?_
  refine v_iconst o (0 : Int32) dX11_keepRecord_39 (by decide) ?_
  refine v_istore o [(5, .int (0 : Int32)), (4, .int ((z_I D 1145 a0) + (1 : Int32))), (3, .int s0), (0, .ref (z_w q a0)), (2, .int a2)] dX11_keepRecord_40 (by decide) rfl ?_
  refine v_sub [3, 4, 2, 1, 0] rfl ?_
  obtain ⟨e8, he9, h⟩ := z_bind h
  refine z_loopV (P := p_X11_keepRecord_42 q X _ G a0 a2 s0 ((z_I D 1145 a0) + (1 : Int32))) (E := x_X11_keepRecord_42 q X _ G a0 a2 s0 ((z_I D 1145 a0) + (1 : Int32))) (fun v ρ hb hk => tc_X11_keepRecord_42 (D := v.1) (a0 := a0) (a2 := a2) (a3 := s0) (a4 := ((z_I D 1145 a0) + (1 : Int32))) (a5 := v.2) o hX hK0 hb hk) 4000 _ e8 he9 ?_
  show z_V q X 9 _ _ _ G e8 76 [(0, .ref (z_w q a0)), (2, .int a2), (3, .int s0)] []
  refine v_aload_n o dX11_keepRecord_76 rfl 0 rfl ?_
  obtain ⟨n10, h⟩ := z_gK_of h
  refine gt_11_47 o hK0 ln_5_142 (by rw [n10]; decide) dX11_keepRecord_77 ?_
  refine v_iconst o (4 : Int32) dX11_keepRecord_80 (by decide) ?_
  refine v_iload_n o dX11_keepRecord_81 rfl 1 rfl ?_
  refine v_bipush o (8 : Int32) dX11_keepRecord_82 (by decide) ?_
  refine v_ishr o dX11_keepRecord_84 ?_
  obtain ⟨n11, n12, h⟩ := z_gA_of h
  refine v_iast o n11 n12 dX11_keepRecord_85 ?_
  refine v_aload_n o dX11_keepRecord_86 rfl 0 rfl ?_
  refine gt_11_47 o hK0 ln_5_142 (by rw [n10]; decide) dX11_keepRecord_87 ?_
  refine v_iconst o (5 : Int32) dX11_keepRecord_90 (by decide) ?_
  refine v_iload_n o dX11_keepRecord_91 rfl 1 rfl ?_
  refine v_sipush o (255 : Int32) dX11_keepRecord_92 (by decide) ?_
  refine v_iand o dX11_keepRecord_95 ?_
  obtain ⟨n13, n14, h⟩ := z_gA_of h
  refine v_iast o n13 n14 dX11_keepRecord_96 ?_
  refine v_aload_n o dX11_keepRecord_97 rfl 0 rfl ?_
  obtain ⟨D16, he15, h⟩ := z_bind h
  refine v_callV o yw_X11_digestBegin ln_5_52 wi_X11_digestBegin ws_X11_digestBegin hX (by decide) 11 rfl hK0 (As := []) rfl rfl (Nat.le_of_ble_eq_true rfl) (e_X11_digestBegin hK0 he15) dX11_keepRecord_98 ?_
  refine v_iconst o (0 : Int32) dX11_keepRecord_101 (by decide) ?_
  refine v_istore o [(5, .int (0 : Int32)), (0, .ref (z_w q a0)), (2, .int a2), (3, .int s0)] dX11_keepRecord_102 (by decide) rfl ?_
  refine v_sub [1, 2, 3, 0] rfl ?_
  obtain ⟨e23, he24, h⟩ := z_bind h
  refine z_loopV (P := p_X11_keepRecord_104 q X _ G a0 a2 s0) (E := x_X11_keepRecord_104 q X _ G a0 a2 s0) (fun v ρ hb hk => tc_X11_keepRecord_104 (D := v.1) (a0 := a0) (a2 := a2) (a3 := s0) (a5 := v.2) o hX hK0 hb hk) 4000 _ e23 he24 ?_
  show z_V q X 9 _ _ _ G e23 130 [(0, .ref (z_w q a0)), (2, .int a2), (3, .int s0)] []
  refine v_aload_n o dX11_keepRecord_130 rfl 0 rfl ?_
  obtain ⟨r26, he25, h⟩ := z_bind h
  refine v_callV o yw_X11_checkNow ln_5_79 wi_X11_checkNow ws_X11_checkNow hX (by decide) 11 rfl hK0 (As := []) rfl rfl (Nat.le_of_ble_eq_true rfl) (e_X11_checkNow hK0 he25) dX11_keepRecord_131 ?_
  refine v_istore o [(5, .int r26), (0, .ref (z_w q a0)), (2, .int a2), (3, .int s0)] dX11_keepRecord_134 (by decide) rfl ?_
  refine v_iconst o (0 : Int32) dX11_keepRecord_136 (by decide) ?_
  refine v_istore o [(6, .int (0 : Int32)), (5, .int r26), (0, .ref (z_w q a0)), (2, .int a2), (3, .int s0)] dX11_keepRecord_137 (by decide) rfl ?_
  refine v_sub [2, 3, 4, 1, 0] rfl ?_
  obtain ⟨e31, he32, h⟩ := z_bind h
  refine z_loopV (P := p_X11_keepRecord_139 q X _ G a0 a2 s0 r26) (E := x_X11_keepRecord_139 q X _ G a0 a2 s0 r26) (fun v ρ hb hk => tc_X11_keepRecord_139 (D := v.1) (a0 := a0) (a2 := a2) (a3 := s0) (a5 := r26) (a6 := v.2) o hX hK0 hb hk) 4000 _ e31 he32 ?_
  show z_V q X 9 _ _ _ G e31 178 [(0, .ref (z_w q a0)), (2, .int a2), (3, .int s0)] []
  refine v_bipush o (10 : Int32) dX11_keepRecord_178 (by decide) ?_
  refine v_iload_n o dX11_keepRecord_180 rfl 1 rfl ?_
  refine v_iadd o dX11_keepRecord_181 ?_
  refine v_istore o [(6, .int ((10 : Int32) + a2)), (0, .ref (z_w q a0)), (2, .int a2), (3, .int s0)] dX11_keepRecord_182 (by decide) rfl ?_
  refine v_aload_n o dX11_keepRecord_184 rfl 1 rfl ?_
  refine v_iload_n o dX11_keepRecord_185 rfl 3 rfl ?_
  obtain ⟨D34, he33, h⟩ := z_bind h
  refine v_callV o yw_X11_erase ln_6_137 wi_X11_erase ws_X11_erase hX (by decide) 11 rfl hK0 (As := [.int s0]) rfl rfl (Nat.le_of_ble_eq_true rfl) (e_X11_erase hK0 he33) dX11_keepRecord_186 ?_
  refine v_iconst o (0 : Int32) dX11_keepRecord_189 (by decide) ?_
  refine v_istore o [(7, .int (0 : Int32)), (6, .int ((10 : Int32) + a2)), (0, .ref (z_w q a0)), (2, .int a2), (3, .int s0)] dX11_keepRecord_190 (by decide) rfl ?_
  refine v_sub [2, 4, 1, 0] rfl ?_
  obtain ⟨e50, he51, h⟩ := z_bind h
  refine z_loopV (P := p_X11_keepRecord_192 q X _ G a0 s0 ((10 : Int32) + a2)) (E := x_X11_keepRecord_192 q X _ G a0 s0 ((10 : Int32) + a2)) (fun v ρ hb hk => tc_X11_keepRecord_192 (D := v.1) (a0 := a0) (a3 := s0) (a6 := ((10 : Int32) + a2)) (a7 := v.2) o hX hK0 hb hk) 4000 _ e50 he51 ?_
  show z_V q X 9 _ _ _ G e50 266 [] []
  have hr := z_some h
  subst hr
  exact v_return o dX11_keepRecord_266
def f_X11_keepRecord (G : z_G) (D : z_D) (a0 : Nat) (a1 : Int32) (a2 : Int32) : Option (z_D) :=
  (f_X11_findRecord G D a0 a1).bind (fun D2 => ((if (z_I D2 1144 a0) = (-2 : Int32) then ((j_X11_keepRecord_30 G D2  a0 a2 ((2 : Int32) * a1))) else ((j_X11_keepRecord_30 G D2  a0 a2 ((((4 : Int32) * a1) + (1 : Int32)) - (z_I D2 1144 a0)))))))
set_option maxRecDepth 100000 in
set_option maxHeartbeats 4000000 in
theorem b_X11_keepRecord {q : z_Q} {X : z_X} {G : z_G} {D : z_D} {a0 : Nat} {a1 : Int32} {a2 : Int32}  {D1 : z_D} (o : z_O q X cX11_keepRecord 9 "FlashTrustModel" "keepRecord" none) (hX : x_R X = z_rm 6 0 0) (hK0 : z_K G a0 = 111) (h : f_X11_keepRecord G D a0 a1 a2 = some D1) : z_V q X 9 (z_F q X none G D1 0 0) 0 0 G D 0 [(0, .ref (z_w q a0)), (1, .int a1), (2, .int a2)] [] := by
  unfold f_X11_keepRecord at h
  refine v_aload_n o dX11_keepRecord_0 rfl 0 rfl ?_
  refine v_iload_n o dX11_keepRecord_1 rfl 1 rfl ?_
  obtain ⟨D2, he1, h⟩ := z_bind h
  refine v_callV o yw_X11_findRecord ln_6_174 wi_X11_findRecord ws_X11_findRecord hX (by decide) 11 rfl hK0 (As := [.int a1]) rfl rfl (Nat.le_of_ble_eq_true rfl) (e_X11_findRecord hK0 he1) dX11_keepRecord_2 ?_
  refine v_aload_n o dX11_keepRecord_5 rfl 0 rfl ?_
  refine gt_11_44 o hK0 ln_5_139 dX11_keepRecord_6 ?_
  refine v_bipush o (-2 : Int32) dX11_keepRecord_9 (by decide) ?_
  refine v_icmp_ne o 20 dX11_keepRecord_11 (by decide) (fun c3 => ?_) (fun c3 => ?_)
  · replace h := z_in c3 h
    refine v_iconst o (4 : Int32) dX11_keepRecord_20 (by decide) ?_
    refine v_iload_n o dX11_keepRecord_21 rfl 1 rfl ?_
    refine v_imul o dX11_keepRecord_22 ?_
    refine v_iconst o (1 : Int32) dX11_keepRecord_23 (by decide) ?_
    refine v_iadd o dX11_keepRecord_24 ?_
    refine v_aload_n o dX11_keepRecord_25 rfl 0 rfl ?_
    refine gt_11_44 o hK0 ln_5_139 dX11_keepRecord_26 ?_
    refine v_isub o dX11_keepRecord_29 ?_
    refine v_sub [0, 2] rfl ?_
    exact tj_X11_keepRecord_30 o hX hK0 h
  · replace h := z_ip c3 h
    refine v_iconst o (2 : Int32) dX11_keepRecord_14 (by decide) ?_
    refine v_iload_n o dX11_keepRecord_15 rfl 1 rfl ?_
    refine v_imul o dX11_keepRecord_16 ?_
    refine v_goto o 30 dX11_keepRecord_17 (by decide) ?_
    refine v_sub [0, 2] rfl ?_
    exact tj_X11_keepRecord_30 o hX hK0 h
theorem e_X11_keepRecord {q : z_Q} {l : Launch} {G : z_G} {D : z_D} {a0 : Nat} {a1 : Int32} {a2 : Int32}  {D1 : z_D} (hK0 : z_K G a0 = 111) (h : f_X11_keepRecord G D a0 a1 a2 = some D1) : z_E q l yX11_keepRecord cX11_keepRecord 9 none 6 0 0 [.ref (z_w q a0), .int a1, .int a2] G D none G D1 :=
  z_E.of (by decide) (Nat.le_of_ble_eq_true rfl) (fun X hX _ o => b_X11_keepRecord o hX hK0 h)
def p_X11_keepDoc_2 (q : z_Q) (X : z_X) (Q : State → Prop) (G : z_G) (a0 : Nat) : (z_D × Int32) → Prop := (fun v => z_V q X 2 Q 0 0 G v.1 2 [(0, .ref (z_w q a0)), (1, .int v.2)] [])
def x_X11_keepDoc_2 (q : z_Q) (X : z_X) (Q : State → Prop) (G : z_G) (a0 : Nat) : z_D → Prop := (fun v => z_V q X 2 Q 0 0 G v 31 [(0, .ref (z_w q a0))] [])
def k_X11_keepDoc_2 (q : z_Q) (X : z_X) (Q : State → Prop) (G : z_G) (a0 : Nat) : (z_D × Int32) ⊕ z_D → Prop := Sum.elim (p_X11_keepDoc_2 q X Q G a0) (x_X11_keepDoc_2 q X Q G a0)
def c_X11_keepDoc_2 (G : z_G) (D : z_D) (a0 : Nat) (a1 : Int32) : Option ((z_D × Int32) ⊕ z_D) :=
  (if (z_I D 1126 a0) ≤ a1 then (some (.inr D)) else (z_gK G 1 (z_R G 1147 a0) (z_gK G 1 (z_R G 1125 a0) (z_gA G 1 (z_R G 1125 a0) a1 (z_gA G 1 (z_R G 1147 a0) ((6 : Int32) + a1) ((some (.inl ((z_sU D (z_R G 1147 a0) (((6 : Int32) + a1)).toNatClampNeg (z_U D (z_R G 1125 a0) (a1).toNatClampNeg)), (a1 + (1 : Int32)))))))))))
set_option maxRecDepth 100000 in
set_option maxHeartbeats 4000000 in
theorem tc_X11_keepDoc_2 {q : z_Q} {X : z_X} {G : z_G} {D : z_D} {Q : State → Prop} {a0 : Nat} {a1 : Int32} (o : z_O q X cX11_keepDoc 2 "FlashTrustModel" "keepDoc" none) (hX : x_R X = z_rm 7 0 0) (hK0 : z_K G a0 = 111) {ρ : (z_D × Int32) ⊕ z_D} (h : c_X11_keepDoc_2 G D a0 a1 = some ρ) (hk : k_X11_keepDoc_2 q X Q G a0 ρ) : z_V q X 2 Q 0 0 G D 2 [(0, .ref (z_w q a0)), (1, .int a1)] [] := by
  unfold c_X11_keepDoc_2 at h
  refine v_iload_n o dX11_keepDoc_2 rfl 1 rfl ?_
  refine v_aload_n o dX11_keepDoc_3 rfl 0 rfl ?_
  refine gt_11_26 o hK0 ln_5_121 dX11_keepDoc_4 ?_
  refine v_icmp_ge o 31 dX11_keepDoc_7 (by decide) (fun c1 => ?_) (fun c1 => ?_)
  · replace h := z_ip c1 h
    obtain rfl := z_some h
    refine v_sub [0] rfl ?_
    exact hk
  · replace h := z_in c1 h
    refine v_aload_n o dX11_keepDoc_10 rfl 0 rfl ?_
    obtain ⟨n2, h⟩ := z_gK_of h
    refine gt_11_47 o hK0 ln_5_142 (by rw [n2]; decide) dX11_keepDoc_11 ?_
    refine v_bipush o (6 : Int32) dX11_keepDoc_14 (by decide) ?_
    refine v_iload_n o dX11_keepDoc_16 rfl 1 rfl ?_
    refine v_iadd o dX11_keepDoc_17 ?_
    refine v_aload_n o dX11_keepDoc_18 rfl 0 rfl ?_
    obtain ⟨n3, h⟩ := z_gK_of h
    refine gt_11_25 o hK0 ln_5_120 (by rw [n3]; decide) dX11_keepDoc_19 ?_
    refine v_iload_n o dX11_keepDoc_22 rfl 1 rfl ?_
    obtain ⟨n4, n5, h⟩ := z_gA_of h
    refine v_iald o n4 n5 dX11_keepDoc_23 ?_
    obtain ⟨n6, n7, h⟩ := z_gA_of h
    refine v_iast o n6 n7 dX11_keepDoc_24 ?_
    refine v_iinc o (a1 + (1 : Int32)) [(1, .int (a1 + (1 : Int32))), (0, .ref (z_w q a0))] dX11_keepDoc_25 1 rfl rfl (by decide) rfl ?_
    refine v_goto o 2 dX11_keepDoc_28 (by decide) ?_
    obtain rfl := z_some h
    refine v_sub [1, 0] rfl ?_
    exact hk
def f_X11_keepDoc (G : z_G) (D : z_D) (a0 : Nat) : Option (z_D) :=
  ((z_loop (fun v => c_X11_keepDoc_2 G v.1 a0 v.2) 4000 (D, (0 : Int32))).bind (fun e8 => (f_X11_keepRecord G e8 a0 (z_I e8 1127 a0) (z_I e8 1126 a0)).bind (fun D11 => ((some D11)))))
set_option maxRecDepth 100000 in
set_option maxHeartbeats 4000000 in
theorem b_X11_keepDoc {q : z_Q} {X : z_X} {G : z_G} {D : z_D} {a0 : Nat}  {D1 : z_D} (o : z_O q X cX11_keepDoc 2 "FlashTrustModel" "keepDoc" none) (hX : x_R X = z_rm 7 0 0) (hK0 : z_K G a0 = 111) (h : f_X11_keepDoc G D a0 = some D1) : z_V q X 2 (z_F q X none G D1 0 0) 0 0 G D 0 [(0, .ref (z_w q a0))] [] := by
  unfold f_X11_keepDoc at h
  refine v_iconst o (0 : Int32) dX11_keepDoc_0 (by decide) ?_
  refine v_istore_n o [(1, .int (0 : Int32)), (0, .ref (z_w q a0))] dX11_keepDoc_1 rfl (by decide) rfl ?_
  refine v_sub [1, 0] rfl ?_
  obtain ⟨e8, he9, h⟩ := z_bind h
  refine z_loopV (P := p_X11_keepDoc_2 q X _ G a0) (E := x_X11_keepDoc_2 q X _ G a0) (fun v ρ hb hk => tc_X11_keepDoc_2 (D := v.1) (a0 := a0) (a1 := v.2) o hX hK0 hb hk) 4000 _ e8 he9 ?_
  show z_V q X 2 _ _ _ G e8 31 [(0, .ref (z_w q a0))] []
  refine v_aload_n o dX11_keepDoc_31 rfl 0 rfl ?_
  refine v_aload_n o dX11_keepDoc_32 rfl 0 rfl ?_
  refine gt_11_27 o hK0 ln_5_122 dX11_keepDoc_33 ?_
  refine v_aload_n o dX11_keepDoc_36 rfl 0 rfl ?_
  refine gt_11_26 o hK0 ln_5_121 dX11_keepDoc_37 ?_
  obtain ⟨D11, he10, h⟩ := z_bind h
  refine v_callV o yw_X11_keepRecord ln_6_203 wi_X11_keepRecord ws_X11_keepRecord hX (by decide) 11 rfl hK0 (As := [.int (z_I e8 1127 a0), .int (z_I e8 1126 a0)]) rfl rfl (Nat.le_of_ble_eq_true rfl) (e_X11_keepRecord hK0 he10) dX11_keepDoc_40 ?_
  have hr := z_some h
  subst hr
  exact v_return o dX11_keepDoc_43
theorem e_X11_keepDoc {q : z_Q} {l : Launch} {G : z_G} {D : z_D} {a0 : Nat}  {D1 : z_D} (hK0 : z_K G a0 = 111) (h : f_X11_keepDoc G D a0 = some D1) : z_E q l yX11_keepDoc cX11_keepDoc 2 none 7 0 0 [.ref (z_w q a0)] G D none G D1 :=
  z_E.of (by decide) (Nat.le_of_ble_eq_true rfl) (fun X hX _ o => b_X11_keepDoc o hX hK0 h)
def p_X11_takeCame_10 (q : z_Q) (X : z_X) (Q : State → Prop) (G : z_G) (a0 : Nat) : (z_D × Int32) → Prop := (fun v => z_V q X 2 Q 0 0 G v.1 10 [(0, .ref (z_w q a0)), (1, .int v.2)] [])
def x_X11_takeCame_10 (q : z_Q) (X : z_X) (Q : State → Prop) (G : z_G) (a0 : Nat) : z_D → Prop := (fun v => z_V q X 2 Q 0 0 G v 36 [(0, .ref (z_w q a0))] [])
def k_X11_takeCame_10 (q : z_Q) (X : z_X) (Q : State → Prop) (G : z_G) (a0 : Nat) : (z_D × Int32) ⊕ z_D → Prop := Sum.elim (p_X11_takeCame_10 q X Q G a0) (x_X11_takeCame_10 q X Q G a0)
def c_X11_takeCame_10 (G : z_G) (D : z_D) (a0 : Nat) (a1 : Int32) : Option ((z_D × Int32) ⊕ z_D) :=
  (if (z_I D 1156 a0) ≤ a1 then (some (.inr D)) else (z_gK G 1 (z_R G 1125 a0) (z_gK G 1 (z_R G 1155 a0) (z_gA G 1 (z_R G 1155 a0) a1 (z_gA G 1 (z_R G 1125 a0) a1 ((some (.inl ((z_sU D (z_R G 1125 a0) (a1).toNatClampNeg (z_U D (z_R G 1155 a0) (a1).toNatClampNeg)), (a1 + (1 : Int32)))))))))))
set_option maxRecDepth 100000 in
set_option maxHeartbeats 4000000 in
theorem tc_X11_takeCame_10 {q : z_Q} {X : z_X} {G : z_G} {D : z_D} {Q : State → Prop} {a0 : Nat} {a1 : Int32} (o : z_O q X cX11_takeCame 2 "FlashTrustModel" "takeCame" none) (hX : x_R X = z_rm 4 0 0) (hK0 : z_K G a0 = 111) {ρ : (z_D × Int32) ⊕ z_D} (h : c_X11_takeCame_10 G D a0 a1 = some ρ) (hk : k_X11_takeCame_10 q X Q G a0 ρ) : z_V q X 2 Q 0 0 G D 10 [(0, .ref (z_w q a0)), (1, .int a1)] [] := by
  unfold c_X11_takeCame_10 at h
  refine v_iload_n o dX11_takeCame_10 rfl 1 rfl ?_
  refine v_aload_n o dX11_takeCame_11 rfl 0 rfl ?_
  refine gt_11_56 o hK0 ln_5_151 dX11_takeCame_12 ?_
  refine v_icmp_ge o 36 dX11_takeCame_15 (by decide) (fun c1 => ?_) (fun c1 => ?_)
  · replace h := z_ip c1 h
    obtain rfl := z_some h
    refine v_sub [0] rfl ?_
    exact hk
  · replace h := z_in c1 h
    refine v_aload_n o dX11_takeCame_18 rfl 0 rfl ?_
    obtain ⟨n2, h⟩ := z_gK_of h
    refine gt_11_25 o hK0 ln_5_120 (by rw [n2]; decide) dX11_takeCame_19 ?_
    refine v_iload_n o dX11_takeCame_22 rfl 1 rfl ?_
    refine v_aload_n o dX11_takeCame_23 rfl 0 rfl ?_
    obtain ⟨n3, h⟩ := z_gK_of h
    refine gt_11_55 o hK0 ln_5_150 (by rw [n3]; decide) dX11_takeCame_24 ?_
    refine v_iload_n o dX11_takeCame_27 rfl 1 rfl ?_
    obtain ⟨n4, n5, h⟩ := z_gA_of h
    refine v_iald o n4 n5 dX11_takeCame_28 ?_
    obtain ⟨n6, n7, h⟩ := z_gA_of h
    refine v_iast o n6 n7 dX11_takeCame_29 ?_
    refine v_iinc o (a1 + (1 : Int32)) [(1, .int (a1 + (1 : Int32))), (0, .ref (z_w q a0))] dX11_takeCame_30 1 rfl rfl (by decide) rfl ?_
    refine v_goto o 10 dX11_takeCame_33 (by decide) ?_
    obtain rfl := z_some h
    refine v_sub [1, 0] rfl ?_
    exact hk
def f_X11_takeCame (G : z_G) (D : z_D) (a0 : Nat) : Option (z_D) :=
  ((z_loop (fun v => c_X11_takeCame_10 G v.1 a0 v.2) 4000 ((z_sI D 1126 a0 (z_I D 1156 a0)), (0 : Int32))).bind (fun e8 => (f_X11_readDoc G e8 a0).bind (fun p11 => ((some p11.2)))))
set_option maxRecDepth 100000 in
set_option maxHeartbeats 4000000 in
theorem b_X11_takeCame {q : z_Q} {X : z_X} {G : z_G} {D : z_D} {a0 : Nat}  {D1 : z_D} (o : z_O q X cX11_takeCame 2 "FlashTrustModel" "takeCame" none) (hX : x_R X = z_rm 4 0 0) (hK0 : z_K G a0 = 111) (h : f_X11_takeCame G D a0 = some D1) : z_V q X 2 (z_F q X none G D1 0 0) 0 0 G D 0 [(0, .ref (z_w q a0))] [] := by
  unfold f_X11_takeCame at h
  refine v_aload_n o dX11_takeCame_0 rfl 0 rfl ?_
  refine v_aload_n o dX11_takeCame_1 rfl 0 rfl ?_
  refine gt_11_56 o hK0 ln_5_151 dX11_takeCame_2 ?_
  refine pt_11_26 o hK0 ln_5_121 dX11_takeCame_5 ?_
  refine v_iconst o (0 : Int32) dX11_takeCame_8 (by decide) ?_
  refine v_istore_n o [(1, .int (0 : Int32)), (0, .ref (z_w q a0))] dX11_takeCame_9 rfl (by decide) rfl ?_
  refine v_sub [1, 0] rfl ?_
  obtain ⟨e8, he9, h⟩ := z_bind h
  refine z_loopV (P := p_X11_takeCame_10 q X _ G a0) (E := x_X11_takeCame_10 q X _ G a0) (fun v ρ hb hk => tc_X11_takeCame_10 (D := v.1) (a0 := a0) (a1 := v.2) o hX hK0 hb hk) 4000 _ e8 he9 ?_
  show z_V q X 2 _ _ _ G e8 36 [(0, .ref (z_w q a0))] []
  refine v_aload_n o dX11_takeCame_36 rfl 0 rfl ?_
  obtain ⟨p11, he10, h⟩ := z_bind h
  refine v_callV o yw_X11_readDoc ln_6_141 wi_X11_readDoc ws_X11_readDoc hX (by decide) 11 rfl hK0 (As := []) rfl rfl (Nat.le_of_ble_eq_true rfl) (e_X11_readDoc hK0 he10) dX11_takeCame_37 ?_
  refine v_istore_n o [(1, .int p11.1), (0, .ref (z_w q a0))] dX11_takeCame_40 rfl (by decide) rfl ?_
  have hr := z_some h
  subst hr
  exact v_return o dX11_takeCame_41
theorem e_X11_takeCame {q : z_Q} {l : Launch} {G : z_G} {D : z_D} {a0 : Nat}  {D1 : z_D} (hK0 : z_K G a0 = 111) (h : f_X11_takeCame G D a0 = some D1) : z_E q l yX11_takeCame cX11_takeCame 2 none 4 0 0 [.ref (z_w q a0)] G D none G D1 :=
  z_E.of (by decide) (Nat.le_of_ble_eq_true rfl) (fun X hX _ o => b_X11_takeCame o hX hK0 h)
def f_X11_fail (G : z_G) (D : z_D) (a0 : Nat) (a1 : Int32) : Option (Int32 × z_D) :=
  (some (((-10 : Int32) - a1), (z_sI (z_sI D 1148 a0 (0 : Int32)) 1150 a0 a1)))
set_option maxRecDepth 100000 in
set_option maxHeartbeats 4000000 in
theorem b_X11_fail {q : z_Q} {X : z_X} {G : z_G} {D : z_D} {a0 : Nat} {a1 : Int32} {r : Int32} {D1 : z_D} (o : z_O q X cX11_fail 2 "FlashTrustModel" "fail" (some .int)) (hX : x_R X = z_rm 0 0 0) (hK0 : z_K G a0 = 111) (h : f_X11_fail G D a0 a1 = some (r, D1)) : z_V q X 2 (z_F q X (some (.int r)) G D1 0 0) 0 0 G D 0 [(0, .ref (z_w q a0)), (1, .int a1)] [] := by
  unfold f_X11_fail at h
  refine v_aload_n o dX11_fail_0 rfl 0 rfl ?_
  refine v_iconst o (0 : Int32) dX11_fail_1 (by decide) ?_
  refine pt_11_48 o hK0 ln_5_143 dX11_fail_2 ?_
  refine v_aload_n o dX11_fail_5 rfl 0 rfl ?_
  refine v_iload_n o dX11_fail_6 rfl 1 rfl ?_
  refine pt_11_50 o hK0 ln_5_145 dX11_fail_7 ?_
  refine v_bipush o (-10 : Int32) dX11_fail_10 (by decide) ?_
  refine v_iload_n o dX11_fail_12 rfl 1 rfl ?_
  refine v_isub o dX11_fail_13 ?_
  obtain ⟨hr, hs⟩ := Prod.mk.inj (z_some h)
  subst hr
  subst hs
  exact v_ireturn o dX11_fail_14
theorem e_X11_fail {q : z_Q} {l : Launch} {G : z_G} {D : z_D} {a0 : Nat} {a1 : Int32} {r : Int32} {D1 : z_D} (hK0 : z_K G a0 = 111) (h : f_X11_fail G D a0 a1 = some (r, D1)) : z_E q l yX11_fail cX11_fail 2 (some .int) 0 0 0 [.ref (z_w q a0), .int a1] G D (some (.int r)) G D1 :=
  z_E.of (by decide) (Nat.le_of_ble_eq_true rfl) (fun X hX _ o => b_X11_fail o hX hK0 h)
def f_X11_begin (G : z_G) (D : z_D) (a0 : Nat) (a1 : Int32) : Option (Int32 × z_D) :=
  (if (0 : Int32) ≤ a1 then ((if (z_I D 1103 a0) = (0 : Int32) then ((if (z_I D 1148 a0) = (0 : Int32) then ((if (z_I D 1108 a0) = (0 : Int32) then ((some ((-4 : Int32), D))) else ((if (z_I D 1109 a0) = (0 : Int32) then ((some ((1 : Int32), (z_sI (z_sI (z_sI D 1149 a0 a1) 1148 a0 (1 : Int32)) 1150 a0 (0 : Int32))))) else ((some ((-4 : Int32), D))))))) else ((some ((-4 : Int32), D))))) else ((some ((-3 : Int32), D))))) else ((some ((-1 : Int32), D))))
set_option maxRecDepth 100000 in
set_option maxHeartbeats 4000000 in
theorem b_X11_begin {q : z_Q} {X : z_X} {G : z_G} {D : z_D} {a0 : Nat} {a1 : Int32} {r : Int32} {D1 : z_D} (o : z_O q X cX11_begin 2 "FlashTrustModel" "begin" (some .int)) (hX : x_R X = z_rm 0 0 0) (hK0 : z_K G a0 = 111) (h : f_X11_begin G D a0 a1 = some (r, D1)) : z_V q X 2 (z_F q X (some (.int r)) G D1 0 0) 0 0 G D 0 [(0, .ref (z_w q a0)), (1, .int a1)] [] := by
  unfold f_X11_begin at h
  refine v_iload_n o dX11_begin_0 rfl 1 rfl ?_
  refine v_if_ge o 6 dX11_begin_1 (by decide) (fun c1 => ?_) (fun c1 => ?_)
  · replace h := z_ip c1 h
    refine v_aload_n o dX11_begin_6 rfl 0 rfl ?_
    refine gt_11_3 o hK0 ln_5_98 dX11_begin_7 ?_
    refine v_if_eq o 16 dX11_begin_10 (by decide) (fun c2 => ?_) (fun c2 => ?_)
    · replace h := z_ip c2 h
      refine v_aload_n o dX11_begin_16 rfl 0 rfl ?_
      refine gt_11_48 o hK0 ln_5_143 dX11_begin_17 ?_
      refine v_if_ne o 37 dX11_begin_20 (by decide) (fun c3 => ?_) (fun c3 => ?_)
      · replace h := z_in c3 h
        refine v_bipush o (-4 : Int32) dX11_begin_37 (by decide) ?_
        obtain ⟨hr, hs⟩ := Prod.mk.inj (z_some h)
        subst hr
        subst hs
        exact v_ireturn o dX11_begin_39
      · replace h := z_ip c3 h
        refine v_aload_n o dX11_begin_23 rfl 0 rfl ?_
        refine gt_11_8 o hK0 ln_5_103 dX11_begin_24 ?_
        refine v_if_eq o 37 dX11_begin_27 (by decide) (fun c4 => ?_) (fun c4 => ?_)
        · replace h := z_ip c4 h
          refine v_bipush o (-4 : Int32) dX11_begin_37 (by decide) ?_
          obtain ⟨hr, hs⟩ := Prod.mk.inj (z_some h)
          subst hr
          subst hs
          exact v_ireturn o dX11_begin_39
        · replace h := z_in c4 h
          refine v_aload_n o dX11_begin_30 rfl 0 rfl ?_
          refine gt_11_9 o hK0 ln_5_104 dX11_begin_31 ?_
          refine v_if_eq o 40 dX11_begin_34 (by decide) (fun c5 => ?_) (fun c5 => ?_)
          · replace h := z_ip c5 h
            refine v_aload_n o dX11_begin_40 rfl 0 rfl ?_
            refine v_iload_n o dX11_begin_41 rfl 1 rfl ?_
            refine pt_11_49 o hK0 ln_5_144 dX11_begin_42 ?_
            refine v_aload_n o dX11_begin_45 rfl 0 rfl ?_
            refine v_iconst o (1 : Int32) dX11_begin_46 (by decide) ?_
            refine pt_11_48 o hK0 ln_5_143 dX11_begin_47 ?_
            refine v_aload_n o dX11_begin_50 rfl 0 rfl ?_
            refine v_iconst o (0 : Int32) dX11_begin_51 (by decide) ?_
            refine pt_11_50 o hK0 ln_5_145 dX11_begin_52 ?_
            refine v_iconst o (1 : Int32) dX11_begin_55 (by decide) ?_
            obtain ⟨hr, hs⟩ := Prod.mk.inj (z_some h)
            subst hr
            subst hs
            exact v_ireturn o dX11_begin_56
          · replace h := z_in c5 h
            refine v_bipush o (-4 : Int32) dX11_begin_37 (by decide) ?_
            obtain ⟨hr, hs⟩ := Prod.mk.inj (z_some h)
            subst hr
            subst hs
            exact v_ireturn o dX11_begin_39
    · replace h := z_in c2 h
      refine v_bipush o (-3 : Int32) dX11_begin_13 (by decide) ?_
      obtain ⟨hr, hs⟩ := Prod.mk.inj (z_some h)
      subst hr
      subst hs
      exact v_ireturn o dX11_begin_15
  · replace h := z_in c1 h
    refine v_iconst o (-1 : Int32) dX11_begin_4 (by decide) ?_
    obtain ⟨hr, hs⟩ := Prod.mk.inj (z_some h)
    subst hr
    subst hs
    exact v_ireturn o dX11_begin_5
theorem e_X11_begin {q : z_Q} {l : Launch} {G : z_G} {D : z_D} {a0 : Nat} {a1 : Int32} {r : Int32} {D1 : z_D} (hK0 : z_K G a0 = 111) (h : f_X11_begin G D a0 a1 = some (r, D1)) : z_E q l yX11_begin cX11_begin 2 (some .int) 0 0 0 [.ref (z_w q a0), .int a1] G D (some (.int r)) G D1 :=
  z_E.of (by decide) (Nat.le_of_ble_eq_true rfl) (fun X hX _ o => b_X11_begin o hX hK0 h)
def p_X11_takePiece_61 (q : z_Q) (X : z_X) (Q : State → Prop) (G : z_G) (a0 : Nat) (a1 : Int32) (a2 : Int32) (a3 : Int32) : (z_D × Int32) → Prop := (fun v => z_V q X 6 Q 0 0 G v.1 61 [(0, .ref (z_w q a0)), (1, .int a1), (2, .int a2), (3, .int a3), (4, .int v.2)] [])
def x_X11_takePiece_61 (q : z_Q) (X : z_X) (Q : State → Prop) (G : z_G) (a0 : Nat) (a1 : Int32) (a2 : Int32) (a3 : Int32) : z_D → Prop := (fun v => z_V q X 6 Q 0 0 G v 129 [(0, .ref (z_w q a0)), (2, .int a2)] [])
def k_X11_takePiece_61 (q : z_Q) (X : z_X) (Q : State → Prop) (G : z_G) (a0 : Nat) (a1 : Int32) (a2 : Int32) (a3 : Int32) : (z_D × Int32) ⊕ z_D → Prop := Sum.elim (p_X11_takePiece_61 q X Q G a0 a1 a2 a3) (x_X11_takePiece_61 q X Q G a0 a1 a2 a3)
def p_X11_takePiece_70 (q : z_Q) (X : z_X) (Q : State → Prop) (G : z_G) (a0 : Nat) (a1 : Int32) (a2 : Int32) (a3 : Int32) (a4 : Int32) : (z_D × Int32) → Prop := (fun v => z_V q X 6 Q 0 0 G v.1 70 [(0, .ref (z_w q a0)), (1, .int a1), (2, .int a2), (3, .int a3), (4, .int a4), (5, .int v.2)] [])
def x_X11_takePiece_70 (q : z_Q) (X : z_X) (Q : State → Prop) (G : z_G) (a0 : Nat) (a1 : Int32) (a2 : Int32) (a3 : Int32) (a4 : Int32) : z_D → Prop := (fun v => z_V q X 6 Q 0 0 G v 115 [(0, .ref (z_w q a0)), (1, .int a1), (2, .int a2), (3, .int a3), (4, .int a4)] [])
def k_X11_takePiece_70 (q : z_Q) (X : z_X) (Q : State → Prop) (G : z_G) (a0 : Nat) (a1 : Int32) (a2 : Int32) (a3 : Int32) (a4 : Int32) : (z_D × Int32) ⊕ z_D → Prop := Sum.elim (p_X11_takePiece_70 q X Q G a0 a1 a2 a3 a4) (x_X11_takePiece_70 q X Q G a0 a1 a2 a3 a4)
def c_X11_takePiece_70 (G : z_G) (D : z_D) (a0 : Nat) (a1 : Int32) (a2 : Int32) (a3 : Int32) (a4 : Int32) (a5 : Int32) : Option ((z_D × Int32) ⊕ z_D) :=
  (if (32 : Int32) ≤ a5 then (some (.inr D)) else (z_gK G 1 (z_R G 1113 a0) ((if a1 ≤ (a4 + a5) then (z_gA G 1 (z_R G 1113 a0) a5 ((some (.inl ((z_sU D (z_R G 1113 a0) (a5).toNatClampNeg (255 : Int32)), (a5 + (1 : Int32))))))) else (z_gK G 1 (z_R G 1111 a0) (z_gA G 1 (z_R G 1111 a0) (a4 + a5) ((z_gA G 1 (z_R G 1113 a0) a5 ((some (.inl ((z_sU D (z_R G 1113 a0) (a5).toNatClampNeg (z_U D (z_R G 1111 a0) ((a4 + a5)).toNatClampNeg)), (a5 + (1 : Int32))))))))))))))
set_option maxRecDepth 100000 in
set_option maxHeartbeats 4000000 in
theorem tc_X11_takePiece_70 {q : z_Q} {X : z_X} {G : z_G} {D : z_D} {Q : State → Prop} {a0 : Nat} {a1 : Int32} {a2 : Int32} {a3 : Int32} {a4 : Int32} {a5 : Int32} (o : z_O q X cX11_takePiece 6 "FlashTrustModel" "takePiece" (some .int)) (hX : x_R X = z_rm 5 0 0) (hK0 : z_K G a0 = 111) {ρ : (z_D × Int32) ⊕ z_D} (h : c_X11_takePiece_70 G D a0 a1 a2 a3 a4 a5 = some ρ) (hk : k_X11_takePiece_70 q X Q G a0 a1 a2 a3 a4 ρ) : z_V q X 6 Q 0 0 G D 70 [(0, .ref (z_w q a0)), (1, .int a1), (2, .int a2), (3, .int a3), (4, .int a4), (5, .int a5)] [] := by
  unfold c_X11_takePiece_70 at h
  refine v_iload o dX11_takePiece_70 5 rfl ?_
  refine v_bipush o (32 : Int32) dX11_takePiece_72 (by decide) ?_
  refine v_icmp_ge o 115 dX11_takePiece_74 (by decide) (fun c8 => ?_) (fun c8 => ?_)
  · replace h := z_ip c8 h
    obtain rfl := z_some h
    refine v_sub [0, 1, 2, 3, 4] rfl ?_
    exact hk
  · replace h := z_in c8 h
    refine v_aload_n o dX11_takePiece_77 rfl 0 rfl ?_
    obtain ⟨n9, h⟩ := z_gK_of h
    refine gt_11_13 o hK0 ln_5_108 (by rw [n9]; decide) dX11_takePiece_78 ?_
    refine v_iload o dX11_takePiece_81 5 rfl ?_
    refine v_iload o dX11_takePiece_83 4 rfl ?_
    refine v_iload o dX11_takePiece_85 5 rfl ?_
    refine v_iadd o dX11_takePiece_87 ?_
    refine v_iload_n o dX11_takePiece_88 rfl 1 rfl ?_
    refine v_icmp_ge o 105 dX11_takePiece_89 (by decide) (fun c10 => ?_) (fun c10 => ?_)
    · replace h := z_ip c10 h
      refine v_sipush o (255 : Int32) dX11_takePiece_105 (by decide) ?_
      obtain ⟨n11, n12, h⟩ := z_gA_of h
      refine v_iast o n11 n12 dX11_takePiece_108 ?_
      refine v_iinc o (a5 + (1 : Int32)) [(5, .int (a5 + (1 : Int32))), (0, .ref (z_w q a0)), (1, .int a1), (2, .int a2), (3, .int a3), (4, .int a4)] dX11_takePiece_109 5 rfl rfl (by decide) rfl ?_
      refine v_goto o 70 dX11_takePiece_112 (by decide) ?_
      obtain rfl := z_some h
      refine v_sub [1, 2, 3, 4, 5, 0] rfl ?_
      exact hk
    · replace h := z_in c10 h
      refine v_aload_n o dX11_takePiece_92 rfl 0 rfl ?_
      obtain ⟨n13, h⟩ := z_gK_of h
      refine gt_11_11 o hK0 ln_5_106 (by rw [n13]; decide) dX11_takePiece_93 ?_
      refine v_iload o dX11_takePiece_96 4 rfl ?_
      refine v_iload o dX11_takePiece_98 5 rfl ?_
      refine v_iadd o dX11_takePiece_100 ?_
      obtain ⟨n14, n15, h⟩ := z_gA_of h
      refine v_iald o n14 n15 dX11_takePiece_101 ?_
      refine v_goto o 108 dX11_takePiece_102 (by decide) ?_
      obtain ⟨n16, n17, h⟩ := z_gA_of h
      refine v_iast o n16 n17 dX11_takePiece_108 ?_
      refine v_iinc o (a5 + (1 : Int32)) [(5, .int (a5 + (1 : Int32))), (0, .ref (z_w q a0)), (1, .int a1), (2, .int a2), (3, .int a3), (4, .int a4)] dX11_takePiece_109 5 rfl rfl (by decide) rfl ?_
      refine v_goto o 70 dX11_takePiece_112 (by decide) ?_
      obtain rfl := z_some h
      refine v_sub [1, 2, 3, 4, 5, 0] rfl ?_
      exact hk
def c_X11_takePiece_61 (G : z_G) (D : z_D) (a0 : Nat) (a1 : Int32) (a2 : Int32) (a3 : Int32) (a4 : Int32) : Option ((z_D × Int32) ⊕ z_D) :=
  (if a1 ≤ a4 then (some (.inr D)) else (((z_loop (fun v => c_X11_takePiece_70 G v.1 a0 a1 a2 a3 a4 v.2) 4000 (D, (0 : Int32))).bind (fun e18 => (f_X11_writePage G e18 a0 (a3 + a4)).bind (fun D21 => ((some (.inl (D21, (a4 + (32 : Int32)))))))))))
set_option maxRecDepth 100000 in
set_option maxHeartbeats 4000000 in
theorem tc_X11_takePiece_61 {q : z_Q} {X : z_X} {G : z_G} {D : z_D} {Q : State → Prop} {a0 : Nat} {a1 : Int32} {a2 : Int32} {a3 : Int32} {a4 : Int32} (o : z_O q X cX11_takePiece 6 "FlashTrustModel" "takePiece" (some .int)) (hX : x_R X = z_rm 5 0 0) (hK0 : z_K G a0 = 111) {ρ : (z_D × Int32) ⊕ z_D} (h : c_X11_takePiece_61 G D a0 a1 a2 a3 a4 = some ρ) (hk : k_X11_takePiece_61 q X Q G a0 a1 a2 a3 ρ) : z_V q X 6 Q 0 0 G D 61 [(0, .ref (z_w q a0)), (1, .int a1), (2, .int a2), (3, .int a3), (4, .int a4)] [] := by
  unfold c_X11_takePiece_61 at h
  refine v_iload o dX11_takePiece_61 4 rfl ?_
  refine v_iload_n o dX11_takePiece_63 rfl 1 rfl ?_
  refine v_icmp_ge o 129 dX11_takePiece_64 (by decide) (fun c7 => ?_) (fun c7 => ?_)
  · replace h := z_ip c7 h
    obtain rfl := z_some h
    refine v_sub [0, 2] rfl ?_
    exact hk
  · replace h := z_in c7 h
    refine v_iconst o (0 : Int32) dX11_takePiece_67 (by decide) ?_
    refine v_istore o [(5, .int (0 : Int32)), (0, .ref (z_w q a0)), (1, .int a1), (2, .int a2), (3, .int a3), (4, .int a4)] dX11_takePiece_68 (by decide) rfl ?_
    refine v_sub [1, 2, 3, 4, 5, 0] rfl ?_
    obtain ⟨e18, he19, h⟩ := z_bind h
    refine z_loopV (P := p_X11_takePiece_70 q X _ G a0 a1 a2 a3 a4) (E := x_X11_takePiece_70 q X _ G a0 a1 a2 a3 a4) (fun v ρ hb hk => tc_X11_takePiece_70 (D := v.1) (a0 := a0) (a1 := a1) (a2 := a2) (a3 := a3) (a4 := a4) (a5 := v.2) o hX hK0 hb hk) 4000 _ e18 he19 ?_
    show z_V q X 6 _ _ _ G e18 115 [(0, .ref (z_w q a0)), (1, .int a1), (2, .int a2), (3, .int a3), (4, .int a4)] []
    refine v_aload_n o dX11_takePiece_115 rfl 0 rfl ?_
    refine v_iload_n o dX11_takePiece_116 rfl 3 rfl ?_
    refine v_iload o dX11_takePiece_117 4 rfl ?_
    refine v_iadd o dX11_takePiece_119 ?_
    obtain ⟨D21, he20, h⟩ := z_bind h
    refine v_callV o yw_X11_writePage ln_6_121 wi_X11_writePage ws_X11_writePage hX (by decide) 11 rfl hK0 (As := [.int (a3 + a4)]) rfl rfl (Nat.le_of_ble_eq_true rfl) (e_X11_writePage hK0 he20) dX11_takePiece_120 ?_
    refine v_iinc o (a4 + (32 : Int32)) [(4, .int (a4 + (32 : Int32))), (0, .ref (z_w q a0)), (1, .int a1), (2, .int a2), (3, .int a3)] dX11_takePiece_123 4 rfl rfl (by decide) rfl ?_
    refine v_goto o 61 dX11_takePiece_126 (by decide) ?_
    obtain rfl := z_some h
    refine v_sub [1, 2, 3, 4, 0] rfl ?_
    exact hk
def j_X11_takePiece_197 (G : z_G) (D : z_D) (a0 : Nat) (a4 : Int32) (s0 : Int32) (s1 : Nat) : Option (Int32 × z_D) :=
  z_gK G 111 s1 ((f_X11_writeState G D s1 s0).bind (fun D32 => ((if (z_I D32 1103 a0) = (0 : Int32) then ((if a4 = (0 : Int32) then ((f_X11_fail G (z_sI D32 1148 a0 (0 : Int32)) a0 (8 : Int32)).bind (fun p36 => ((some (p36.1, p36.2))))) else (((some ((0 : Int32), (z_sI D32 1148 a0 (0 : Int32)))))))) else ((some ((-3 : Int32), D32)))))))
set_option maxRecDepth 100000 in
set_option maxHeartbeats 4000000 in
theorem tj_X11_takePiece_197 {q : z_Q} {X : z_X} {G : z_G} {D : z_D} {a0 : Nat} {a4 : Int32} {s0 : Int32} {s1 : Nat} {r : Int32} {D1 : z_D} (o : z_O q X cX11_takePiece 6 "FlashTrustModel" "takePiece" (some .int)) (hX : x_R X = z_rm 5 0 0) (hK0 : z_K G a0 = 111) (h : j_X11_takePiece_197 G D a0 a4 s0 s1 = some (r, D1)) : z_V q X 6 (z_F q X (some (.int r)) G D1 0 0) 0 0 G D 197 [(0, .ref (z_w q a0)), (4, .int a4)] [.int s0, .ref (z_w q s1)] := by
  unfold j_X11_takePiece_197 at h
  obtain ⟨n30, h⟩ := z_gK_of h
  obtain ⟨D32, he31, h⟩ := z_bind h
  refine v_callV o yw_X11_writeState ln_6_129 wi_X11_writeState ws_X11_writeState hX (by decide) 11 rfl n30 (As := [.int s0]) rfl rfl (Nat.le_of_ble_eq_true rfl) (e_X11_writeState n30 he31) dX11_takePiece_197 ?_
  refine v_aload_n o dX11_takePiece_200 rfl 0 rfl ?_
  refine gt_11_3 o hK0 ln_5_98 dX11_takePiece_201 ?_
  refine v_if_eq o 210 dX11_takePiece_204 (by decide) (fun c33 => ?_) (fun c33 => ?_)
  · replace h := z_ip c33 h
    refine v_aload_n o dX11_takePiece_210 rfl 0 rfl ?_
    refine v_iconst o (0 : Int32) dX11_takePiece_211 (by decide) ?_
    refine pt_11_48 o hK0 ln_5_143 dX11_takePiece_212 ?_
    refine v_iload o dX11_takePiece_215 1 rfl ?_
    refine v_if_eq o 224 dX11_takePiece_217 (by decide) (fun c34 => ?_) (fun c34 => ?_)
    · replace h := z_ip c34 h
      refine v_aload_n o dX11_takePiece_224 rfl 0 rfl ?_
      refine v_bipush o (8 : Int32) dX11_takePiece_225 (by decide) ?_
      obtain ⟨p36, he35, h⟩ := z_bind h
      refine v_callV o yw_X11_fail ln_6_117 wi_X11_fail ws_X11_fail hX (by decide) 11 rfl hK0 (As := [.int (8 : Int32)]) rfl rfl (Nat.le_of_ble_eq_true rfl) (e_X11_fail hK0 he35) dX11_takePiece_227 ?_
      obtain ⟨hr, hs⟩ := Prod.mk.inj (z_some h)
      subst hr
      subst hs
      exact v_ireturn o dX11_takePiece_230
    · replace h := z_in c34 h
      refine v_iconst o (0 : Int32) dX11_takePiece_220 (by decide) ?_
      refine v_goto o 230 dX11_takePiece_221 (by decide) ?_
      obtain ⟨hr, hs⟩ := Prod.mk.inj (z_some h)
      subst hr
      subst hs
      exact v_ireturn o dX11_takePiece_230
  · replace h := z_in c33 h
    refine v_bipush o (-3 : Int32) dX11_takePiece_207 (by decide) ?_
    obtain ⟨hr, hs⟩ := Prod.mk.inj (z_some h)
    subst hr
    subst hs
    exact v_ireturn o dX11_takePiece_209
def j_X11_takePiece_184 (G : z_G) (D : z_D) (a0 : Nat) (s0 : Int32) : Option (Int32 × z_D) :=
  (if s0 = (0 : Int32) then ((j_X11_takePiece_197 G D  a0 s0 (0 : Int32) a0)) else ((j_X11_takePiece_197 G D  a0 s0 (2 : Int32) a0)))
set_option maxRecDepth 100000 in
set_option maxHeartbeats 4000000 in
theorem tj_X11_takePiece_184 {q : z_Q} {X : z_X} {G : z_G} {D : z_D} {a0 : Nat} {s0 : Int32} {r : Int32} {D1 : z_D} (o : z_O q X cX11_takePiece 6 "FlashTrustModel" "takePiece" (some .int)) (hX : x_R X = z_rm 5 0 0) (hK0 : z_K G a0 = 111) (h : j_X11_takePiece_184 G D a0 s0 = some (r, D1)) : z_V q X 6 (z_F q X (some (.int r)) G D1 0 0) 0 0 G D 184 [(0, .ref (z_w q a0))] [.int s0] := by
  unfold j_X11_takePiece_184 at h
  refine v_istore o [(4, .int s0), (0, .ref (z_w q a0))] dX11_takePiece_184 (by decide) rfl ?_
  refine v_aload_n o dX11_takePiece_186 rfl 1 rfl ?_
  refine v_iload o dX11_takePiece_187 0 rfl ?_
  refine v_if_eq o 196 dX11_takePiece_189 (by decide) (fun c29 => ?_) (fun c29 => ?_)
  · replace h := z_ip c29 h
    refine v_iconst o (0 : Int32) dX11_takePiece_196 (by decide) ?_
    refine v_sub [1, 0] rfl ?_
    exact tj_X11_takePiece_197 o hX hK0 h
  · replace h := z_in c29 h
    refine v_iconst o (2 : Int32) dX11_takePiece_192 (by decide) ?_
    refine v_goto o 197 dX11_takePiece_193 (by decide) ?_
    refine v_sub [1, 0] rfl ?_
    exact tj_X11_takePiece_197 o hX hK0 h
def j_X11_takePiece_26 (G : z_G) (D : z_D) (a0 : Nat) (a1 : Int32) (a2 : Int32) (s0 : Int32) (s1 : Int32) : Option (Int32 × z_D) :=
  (if s1 = s0 then ((f_X11_layState G D a0).bind (fun D4 => ((f_X11_slotAt G D4 ((1 : Int32) - (z_I D4 1116 a0))).bind (fun r6 => (((z_loop (fun v => c_X11_takePiece_61 G v.1 a0 a1 a2 (r6 + ((64 : Int32) * (z_I D4 1151 a0))) v.2) 4000 (D4, (0 : Int32))).bind (fun e22 => (if (z_I e22 1103 a0) = (0 : Int32) then ((if a2 ≤ (64 : Int32) then ((f_X11_slotDigest G e22 a0 ((1 : Int32) - (z_I e22 1116 a0)) (z_I e22 1153 a0)).bind (fun p27 => ((if (lg_cmp p27.1 (z_J p27.2 1154 a0)) = (0 : Int32) then ((j_X11_takePiece_184 G p27.2  a0 (1 : Int32))) else ((j_X11_takePiece_184 G p27.2  a0 (0 : Int32))))))) else ((some ((5 : Int32), (z_sI e22 1151 a0 ((z_I e22 1151 a0) + (1 : Int32)))))))) else ((some ((-3 : Int32), e22))))))))))) else ((f_X11_fail G D a0 (7 : Int32)).bind (fun p38 => ((some (p38.1, p38.2))))))
set_option maxRecDepth 100000 in
set_option maxHeartbeats 4000000 in
theorem tj_X11_takePiece_26 {q : z_Q} {X : z_X} {G : z_G} {D : z_D} {a0 : Nat} {a1 : Int32} {a2 : Int32} {s0 : Int32} {s1 : Int32} {r : Int32} {D1 : z_D} (o : z_O q X cX11_takePiece 6 "FlashTrustModel" "takePiece" (some .int)) (hX : x_R X = z_rm 5 0 0) (hK0 : z_K G a0 = 111) (h : j_X11_takePiece_26 G D a0 a1 a2 s0 s1 = some (r, D1)) : z_V q X 6 (z_F q X (some (.int r)) G D1 0 0) 0 0 G D 26 [(0, .ref (z_w q a0)), (1, .int a1), (2, .int a2)] [.int s0, .int s1] := by
  unfold j_X11_takePiece_26 at h
  refine v_icmp_eq o 36 dX11_takePiece_26 (by decide) (fun c2 => ?_) (fun c2 => ?_)
  · replace h := z_ip c2 h
    refine v_aload_n o dX11_takePiece_36 rfl 0 rfl ?_
    obtain ⟨D4, he3, h⟩ := z_bind h
    refine v_callV o yw_X11_layState ln_5_63 wi_X11_layState ws_X11_layState hX (by decide) 11 rfl hK0 (As := []) rfl rfl (Nat.le_of_ble_eq_true rfl) (e_X11_layState hK0 he3) dX11_takePiece_37 ?_
    refine v_iconst o (1 : Int32) dX11_takePiece_40 (by decide) ?_
    refine v_aload_n o dX11_takePiece_41 rfl 0 rfl ?_
    refine gt_11_16 o hK0 ln_5_111 dX11_takePiece_42 ?_
    refine v_isub o dX11_takePiece_45 ?_
    obtain ⟨r6, he5, h⟩ := z_bind h
    refine v_callS o yw_X11_slotAt ln_5_45 ws_X11_slotAt hX (by decide) (As := [.int ((1 : Int32) - (z_I D4 1116 a0))]) rfl rfl (Nat.le_of_ble_eq_true rfl) (e_X11_slotAt he5) dX11_takePiece_46 ?_
    refine v_bipush o (64 : Int32) dX11_takePiece_49 (by decide) ?_
    refine v_aload_n o dX11_takePiece_51 rfl 0 rfl ?_
    refine gt_11_51 o hK0 ln_5_146 dX11_takePiece_52 ?_
    refine v_imul o dX11_takePiece_55 ?_
    refine v_iadd o dX11_takePiece_56 ?_
    refine v_istore_n o [(3, .int (r6 + ((64 : Int32) * (z_I D4 1151 a0)))), (0, .ref (z_w q a0)), (1, .int a1), (2, .int a2)] dX11_takePiece_57 rfl (by decide) rfl ?_
    refine v_iconst o (0 : Int32) dX11_takePiece_58 (by decide) ?_
    refine v_istore o [(4, .int (0 : Int32)), (3, .int (r6 + ((64 : Int32) * (z_I D4 1151 a0)))), (0, .ref (z_w q a0)), (1, .int a1), (2, .int a2)] dX11_takePiece_59 (by decide) rfl ?_
    refine v_sub [2, 3, 4, 1, 0] rfl ?_
    obtain ⟨e22, he23, h⟩ := z_bind h
    refine z_loopV (P := p_X11_takePiece_61 q X _ G a0 a1 a2 (r6 + ((64 : Int32) * (z_I D4 1151 a0)))) (E := x_X11_takePiece_61 q X _ G a0 a1 a2 (r6 + ((64 : Int32) * (z_I D4 1151 a0)))) (fun v ρ hb hk => tc_X11_takePiece_61 (D := v.1) (a0 := a0) (a1 := a1) (a2 := a2) (a3 := (r6 + ((64 : Int32) * (z_I D4 1151 a0)))) (a4 := v.2) o hX hK0 hb hk) 4000 _ e22 he23 ?_
    show z_V q X 6 _ _ _ G e22 129 [(0, .ref (z_w q a0)), (2, .int a2)] []
    refine v_aload_n o dX11_takePiece_129 rfl 0 rfl ?_
    refine gt_11_3 o hK0 ln_5_98 dX11_takePiece_130 ?_
    refine v_if_eq o 139 dX11_takePiece_133 (by decide) (fun c24 => ?_) (fun c24 => ?_)
    · replace h := z_ip c24 h
      refine v_iload_n o dX11_takePiece_139 rfl 1 rfl ?_
      refine v_bipush o (64 : Int32) dX11_takePiece_140 (by decide) ?_
      refine v_icmp_le o 157 dX11_takePiece_142 (by decide) (fun c25 => ?_) (fun c25 => ?_)
      · replace h := z_ip c25 h
        refine v_aload_n o dX11_takePiece_157 rfl 0 rfl ?_
        refine v_iconst o (1 : Int32) dX11_takePiece_158 (by decide) ?_
        refine v_aload_n o dX11_takePiece_159 rfl 0 rfl ?_
        refine gt_11_16 o hK0 ln_5_111 dX11_takePiece_160 ?_
        refine v_isub o dX11_takePiece_163 ?_
        refine v_aload_n o dX11_takePiece_164 rfl 0 rfl ?_
        refine gt_11_53 o hK0 ln_5_148 dX11_takePiece_165 ?_
        obtain ⟨p27, he26, h⟩ := z_bind h
        refine v_callV o yw_X11_slotDigest ln_5_48 wi_X11_slotDigest ws_X11_slotDigest hX (by decide) 11 rfl hK0 (As := [.int ((1 : Int32) - (z_I e22 1116 a0)), .int (z_I e22 1153 a0)]) rfl rfl (Nat.le_of_ble_eq_true rfl) (e_X11_slotDigest hK0 he26) dX11_takePiece_168 ?_
        refine v_aload_n o dX11_takePiece_171 rfl 0 rfl ?_
        refine gt_11_54 o hK0 ln_5_149 dX11_takePiece_172 ?_
        refine v_lcmp o dX11_takePiece_175 ?_
        refine v_if_ne o 183 dX11_takePiece_176 (by decide) (fun c28 => ?_) (fun c28 => ?_)
        · replace h := z_in c28 h
          refine v_iconst o (0 : Int32) dX11_takePiece_183 (by decide) ?_
          refine v_sub [0] rfl ?_
          exact tj_X11_takePiece_184 o hX hK0 h
        · replace h := z_ip c28 h
          refine v_iconst o (1 : Int32) dX11_takePiece_179 (by decide) ?_
          refine v_goto o 184 dX11_takePiece_180 (by decide) ?_
          refine v_sub [0] rfl ?_
          exact tj_X11_takePiece_184 o hX hK0 h
      · replace h := z_in c25 h
        refine v_aload_n o dX11_takePiece_145 rfl 0 rfl ?_
        refine v_dup o dX11_takePiece_146 rfl ?_
        refine gt_11_51 o hK0 ln_5_146 dX11_takePiece_147 ?_
        refine v_iconst o (1 : Int32) dX11_takePiece_150 (by decide) ?_
        refine v_iadd o dX11_takePiece_151 ?_
        refine pt_11_51 o hK0 ln_5_146 dX11_takePiece_152 ?_
        refine v_iconst o (5 : Int32) dX11_takePiece_155 (by decide) ?_
        obtain ⟨hr, hs⟩ := Prod.mk.inj (z_some h)
        subst hr
        subst hs
        exact v_ireturn o dX11_takePiece_156
    · replace h := z_in c24 h
      refine v_bipush o (-3 : Int32) dX11_takePiece_136 (by decide) ?_
      obtain ⟨hr, hs⟩ := Prod.mk.inj (z_some h)
      subst hr
      subst hs
      exact v_ireturn o dX11_takePiece_138
  · replace h := z_in c2 h
    refine v_aload_n o dX11_takePiece_29 rfl 0 rfl ?_
    refine v_bipush o (7 : Int32) dX11_takePiece_30 (by decide) ?_
    obtain ⟨p38, he37, h⟩ := z_bind h
    refine v_callV o yw_X11_fail ln_6_117 wi_X11_fail ws_X11_fail hX (by decide) 11 rfl hK0 (As := [.int (7 : Int32)]) rfl rfl (Nat.le_of_ble_eq_true rfl) (e_X11_fail hK0 he37) dX11_takePiece_32 ?_
    obtain ⟨hr, hs⟩ := Prod.mk.inj (z_some h)
    subst hr
    subst hs
    exact v_ireturn o dX11_takePiece_35
def f_X11_takePiece (G : z_G) (D : z_D) (a0 : Nat) (a1 : Int32) : Option (Int32 × z_D) :=
  (if (64 : Int32) ≤ ((z_I D 1153 a0) - ((64 : Int32) * (z_I D 1151 a0))) then ((j_X11_takePiece_26 G D  a0 a1 ((z_I D 1153 a0) - ((64 : Int32) * (z_I D 1151 a0))) (64 : Int32) a1)) else ((j_X11_takePiece_26 G D  a0 a1 ((z_I D 1153 a0) - ((64 : Int32) * (z_I D 1151 a0))) ((z_I D 1153 a0) - ((64 : Int32) * (z_I D 1151 a0))) a1)))
set_option maxRecDepth 100000 in
set_option maxHeartbeats 4000000 in
theorem b_X11_takePiece {q : z_Q} {X : z_X} {G : z_G} {D : z_D} {a0 : Nat} {a1 : Int32} {r : Int32} {D1 : z_D} (o : z_O q X cX11_takePiece 6 "FlashTrustModel" "takePiece" (some .int)) (hX : x_R X = z_rm 5 0 0) (hK0 : z_K G a0 = 111) (h : f_X11_takePiece G D a0 a1 = some (r, D1)) : z_V q X 6 (z_F q X (some (.int r)) G D1 0 0) 0 0 G D 0 [(0, .ref (z_w q a0)), (1, .int a1)] [] := by
  unfold f_X11_takePiece at h
  refine v_aload_n o dX11_takePiece_0 rfl 0 rfl ?_
  refine gt_11_53 o hK0 ln_5_148 dX11_takePiece_1 ?_
  refine v_bipush o (64 : Int32) dX11_takePiece_4 (by decide) ?_
  refine v_aload_n o dX11_takePiece_6 rfl 0 rfl ?_
  refine gt_11_51 o hK0 ln_5_146 dX11_takePiece_7 ?_
  refine v_imul o dX11_takePiece_10 ?_
  refine v_isub o dX11_takePiece_11 ?_
  refine v_istore_n o [(2, .int ((z_I D 1153 a0) - ((64 : Int32) * (z_I D 1151 a0)))), (0, .ref (z_w q a0)), (1, .int a1)] dX11_takePiece_12 rfl (by decide) rfl ?_
  refine v_iload_n o dX11_takePiece_13 rfl 2 rfl ?_
  refine v_iload_n o dX11_takePiece_14 rfl 0 rfl ?_
  refine v_bipush o (64 : Int32) dX11_takePiece_15 (by decide) ?_
  refine v_icmp_ge o 24 dX11_takePiece_17 (by decide) (fun c1 => ?_) (fun c1 => ?_)
  · replace h := z_ip c1 h
    refine v_bipush o (64 : Int32) dX11_takePiece_24 (by decide) ?_
    refine v_sub [1, 2, 0] rfl ?_
    exact tj_X11_takePiece_26 o hX hK0 h
  · replace h := z_in c1 h
    refine v_iload_n o dX11_takePiece_20 rfl 0 rfl ?_
    refine v_goto o 26 dX11_takePiece_21 (by decide) ?_
    refine v_sub [1, 2, 0] rfl ?_
    exact tj_X11_takePiece_26 o hX hK0 h
theorem e_X11_takePiece {q : z_Q} {l : Launch} {G : z_G} {D : z_D} {a0 : Nat} {a1 : Int32} {r : Int32} {D1 : z_D} (hK0 : z_K G a0 = 111) (h : f_X11_takePiece G D a0 a1 = some (r, D1)) : z_E q l yX11_takePiece cX11_takePiece 6 (some .int) 5 0 0 [.ref (z_w q a0), .int a1] G D (some (.int r)) G D1 :=
  z_E.of (by decide) (Nat.le_of_ble_eq_true rfl) (fun X hX _ o => b_X11_takePiece o hX hK0 h)
def f_X11_dropTrusted (G : z_G) (D : z_D) (a0 : Nat) (a1 : Int32) : Option (z_D) :=
  (if (z_I D 1103 a0) = (0 : Int32) then ((f_X11_takeTrusted G D a0 a1).bind (fun p3 => ((if p3.1 = (0 : Int32) then ((some p3.2)) else ((f_X11_keepRecord G p3.2 a0 a1 (0 : Int32)).bind (fun D6 => ((some D6)))))))) else ((some D)))
set_option maxRecDepth 100000 in
set_option maxHeartbeats 4000000 in
theorem b_X11_dropTrusted {q : z_Q} {X : z_X} {G : z_G} {D : z_D} {a0 : Nat} {a1 : Int32}  {D1 : z_D} (o : z_O q X cX11_dropTrusted 2 "FlashTrustModel" "dropTrusted" none) (hX : x_R X = z_rm 7 0 0) (hK0 : z_K G a0 = 111) (h : f_X11_dropTrusted G D a0 a1 = some D1) : z_V q X 2 (z_F q X none G D1 0 0) 0 0 G D 0 [(0, .ref (z_w q a0)), (1, .int a1)] [] := by
  unfold f_X11_dropTrusted at h
  refine v_aload_n o dX11_dropTrusted_0 rfl 0 rfl ?_
  refine gt_11_3 o hK0 ln_5_98 dX11_dropTrusted_1 ?_
  refine v_if_ne o 21 dX11_dropTrusted_4 (by decide) (fun c1 => ?_) (fun c1 => ?_)
  · replace h := z_in c1 h
    have hr := z_some h
    subst hr
    exact v_return o dX11_dropTrusted_21
  · replace h := z_ip c1 h
    refine v_aload_n o dX11_dropTrusted_7 rfl 0 rfl ?_
    refine v_iload_n o dX11_dropTrusted_8 rfl 1 rfl ?_
    obtain ⟨p3, he2, h⟩ := z_bind h
    refine v_callV o yw_X11_takeTrusted ln_6_170 wi_X11_takeTrusted ws_X11_takeTrusted hX (by decide) 11 rfl hK0 (As := [.int a1]) rfl rfl (Nat.le_of_ble_eq_true rfl) (e_X11_takeTrusted hK0 he2) dX11_dropTrusted_9 ?_
    refine v_if_eq o 21 dX11_dropTrusted_12 (by decide) (fun c4 => ?_) (fun c4 => ?_)
    · replace h := z_ip c4 h
      have hr := z_some h
      subst hr
      exact v_return o dX11_dropTrusted_21
    · replace h := z_in c4 h
      refine v_aload_n o dX11_dropTrusted_15 rfl 0 rfl ?_
      refine v_iload_n o dX11_dropTrusted_16 rfl 1 rfl ?_
      refine v_iconst o (0 : Int32) dX11_dropTrusted_17 (by decide) ?_
      obtain ⟨D6, he5, h⟩ := z_bind h
      refine v_callV o yw_X11_keepRecord ln_6_203 wi_X11_keepRecord ws_X11_keepRecord hX (by decide) 11 rfl hK0 (As := [.int a1, .int (0 : Int32)]) rfl rfl (Nat.le_of_ble_eq_true rfl) (e_X11_keepRecord hK0 he5) dX11_dropTrusted_18 ?_
      have hr := z_some h
      subst hr
      exact v_return o dX11_dropTrusted_21
theorem e_X11_dropTrusted {q : z_Q} {l : Launch} {G : z_G} {D : z_D} {a0 : Nat} {a1 : Int32}  {D1 : z_D} (hK0 : z_K G a0 = 111) (h : f_X11_dropTrusted G D a0 a1 = some D1) : z_E q l yX11_dropTrusted cX11_dropTrusted 2 none 7 0 0 [.ref (z_w q a0), .int a1] G D none G D1 :=
  z_E.of (by decide) (Nat.le_of_ble_eq_true rfl) (fun X hX _ o => b_X11_dropTrusted o hX hK0 h)
def j_X11_takeRoot_179 (G : z_G) (D : z_D) (a0 : Nat)  : Option (Int32 × z_D) :=
  (f_X11_takeCame G D a0).bind (fun D37 => ((if (z_I D37 1103 a0) = (0 : Int32) then ((f_X11_keepDoc G D37 a0).bind (fun D40 => ((some ((1 : Int32), D40))))) else ((some ((1 : Int32), D37))))))
set_option maxRecDepth 100000 in
set_option maxHeartbeats 4000000 in
theorem tj_X11_takeRoot_179 {q : z_Q} {X : z_X} {G : z_G} {D : z_D} {a0 : Nat}  {r : Int32} {D1 : z_D} (o : z_O q X cX11_takeRoot 10 "FlashTrustModel" "takeRoot" (some .int)) (hX : x_R X = z_rm 8 0 0) (hK0 : z_K G a0 = 111) (h : j_X11_takeRoot_179 G D a0  = some (r, D1)) : z_V q X 10 (z_F q X (some (.int r)) G D1 0 0) 0 0 G D 179 [(0, .ref (z_w q a0))] [] := by
  unfold j_X11_takeRoot_179 at h
  refine v_aload_n o dX11_takeRoot_179 rfl 0 rfl ?_
  obtain ⟨D37, he36, h⟩ := z_bind h
  refine v_callV o yw_X11_takeCame ln_6_183 wi_X11_takeCame ws_X11_takeCame hX (by decide) 11 rfl hK0 (As := []) rfl rfl (Nat.le_of_ble_eq_true rfl) (e_X11_takeCame hK0 he36) dX11_takeRoot_180 ?_
  refine v_aload_n o dX11_takeRoot_183 rfl 0 rfl ?_
  refine gt_11_3 o hK0 ln_5_98 dX11_takeRoot_184 ?_
  refine v_if_ne o 194 dX11_takeRoot_187 (by decide) (fun c38 => ?_) (fun c38 => ?_)
  · replace h := z_in c38 h
    refine v_iconst o (1 : Int32) dX11_takeRoot_194 (by decide) ?_
    obtain ⟨hr, hs⟩ := Prod.mk.inj (z_some h)
    subst hr
    subst hs
    exact v_ireturn o dX11_takeRoot_195
  · replace h := z_ip c38 h
    refine v_aload_n o dX11_takeRoot_190 rfl 0 rfl ?_
    obtain ⟨D40, he39, h⟩ := z_bind h
    refine v_callV o yw_X11_keepDoc ln_6_207 wi_X11_keepDoc ws_X11_keepDoc hX (by decide) 11 rfl hK0 (As := []) rfl rfl (Nat.le_of_ble_eq_true rfl) (e_X11_keepDoc hK0 he39) dX11_takeRoot_191 ?_
    refine v_iconst o (1 : Int32) dX11_takeRoot_194 (by decide) ?_
    obtain ⟨hr, hs⟩ := Prod.mk.inj (z_some h)
    subst hr
    subst hs
    exact v_ireturn o dX11_takeRoot_195
def j_X11_takeRoot_162 (G : z_G) (D : z_D) (a0 : Nat) (s0 : Int32) : Option (Int32 × z_D) :=
  (if s0 = (0 : Int32) then (j_X11_takeRoot_179 G D  a0) else ((f_X11_dropTrusted G D a0 (1 : Int32)).bind (fun D42 => ((f_X11_dropTrusted G D42 a0 (2 : Int32)).bind (fun D44 => ((j_X11_takeRoot_179 G D44  a0)))))))
set_option maxRecDepth 100000 in
set_option maxHeartbeats 4000000 in
theorem tj_X11_takeRoot_162 {q : z_Q} {X : z_X} {G : z_G} {D : z_D} {a0 : Nat} {s0 : Int32} {r : Int32} {D1 : z_D} (o : z_O q X cX11_takeRoot 10 "FlashTrustModel" "takeRoot" (some .int)) (hX : x_R X = z_rm 8 0 0) (hK0 : z_K G a0 = 111) (h : j_X11_takeRoot_162 G D a0 s0 = some (r, D1)) : z_V q X 10 (z_F q X (some (.int r)) G D1 0 0) 0 0 G D 162 [(0, .ref (z_w q a0))] [.int s0] := by
  unfold j_X11_takeRoot_162 at h
  refine v_istore o [(9, .int s0), (0, .ref (z_w q a0))] dX11_takeRoot_162 (by decide) rfl ?_
  refine v_iload o dX11_takeRoot_164 0 rfl ?_
  refine v_if_eq o 179 dX11_takeRoot_166 (by decide) (fun c35 => ?_) (fun c35 => ?_)
  · replace h := z_ip c35 h
    refine v_sub [1] rfl ?_
    exact tj_X11_takeRoot_179 o hX hK0 h
  · replace h := z_in c35 h
    refine v_aload_n o dX11_takeRoot_169 rfl 1 rfl ?_
    refine v_iconst o (1 : Int32) dX11_takeRoot_170 (by decide) ?_
    obtain ⟨D42, he41, h⟩ := z_bind h
    refine v_callV o yw_X11_dropTrusted ln_6_199 wi_X11_dropTrusted ws_X11_dropTrusted hX (by decide) 11 rfl hK0 (As := [.int (1 : Int32)]) rfl rfl (Nat.le_of_ble_eq_true rfl) (e_X11_dropTrusted hK0 he41) dX11_takeRoot_171 ?_
    refine v_aload_n o dX11_takeRoot_174 rfl 1 rfl ?_
    refine v_iconst o (2 : Int32) dX11_takeRoot_175 (by decide) ?_
    obtain ⟨D44, he43, h⟩ := z_bind h
    refine v_callV o yw_X11_dropTrusted ln_6_199 wi_X11_dropTrusted ws_X11_dropTrusted hX (by decide) 11 rfl hK0 (As := [.int (2 : Int32)]) rfl rfl (Nat.le_of_ble_eq_true rfl) (e_X11_dropTrusted hK0 he43) dX11_takeRoot_176 ?_
    refine v_sub [1] rfl ?_
    exact tj_X11_takeRoot_179 o hX hK0 h
def j_X11_takeRoot_157 (G : z_G) (D : z_D) (a0 : Nat)  : Option (Int32 × z_D) :=
  (j_X11_takeRoot_162 G D  a0 (1 : Int32))
set_option maxRecDepth 100000 in
set_option maxHeartbeats 4000000 in
theorem tj_X11_takeRoot_157 {q : z_Q} {X : z_X} {G : z_G} {D : z_D} {a0 : Nat}  {r : Int32} {D1 : z_D} (o : z_O q X cX11_takeRoot 10 "FlashTrustModel" "takeRoot" (some .int)) (hX : x_R X = z_rm 8 0 0) (hK0 : z_K G a0 = 111) (h : j_X11_takeRoot_157 G D a0  = some (r, D1)) : z_V q X 10 (z_F q X (some (.int r)) G D1 0 0) 0 0 G D 157 [(0, .ref (z_w q a0))] [] := by
  unfold j_X11_takeRoot_157 at h
  refine v_iconst o (1 : Int32) dX11_takeRoot_157 (by decide) ?_
  refine v_goto o 162 dX11_takeRoot_158 (by decide) ?_
  exact tj_X11_takeRoot_162 o hX hK0 h
def f_X11_takeRoot (G : z_G) (D : z_D) (a0 : Nat) : Option (Int32 × z_D) :=
  (f_X11_takeTrusted G D a0 (0 : Int32)).bind (fun p2 => (z_gK G 1 (z_R G 1133 a0) (z_gA G 1 (z_R G 1133 a0) (0 : Int32) (z_gK G 1 (z_R G 1134 a0) (z_gA G 1 (z_R G 1134 a0) (0 : Int32) (z_gA G 1 (z_R G 1133 a0) (1 : Int32) (z_gA G 1 (z_R G 1134 a0) (1 : Int32) (z_gA G 1 (z_R G 1133 a0) (2 : Int32) (z_gA G 1 (z_R G 1134 a0) (2 : Int32) ((f_X11_takeCame G p2.2 a0).bind (fun D18 => ((if (z_I D18 1131 a0) = ((z_I p2.2 1131 a0) + (1 : Int32)) then ((f_X11_has G D18 a0 (z_U p2.2 (z_R G 1133 a0) ((0 : Int32)).toNatClampNeg) (z_U p2.2 (z_R G 1134 a0) ((0 : Int32)).toNatClampNeg)).bind (fun p21 => ((if p21.1 = (0 : Int32) then ((f_X11_fail G p21.2 a0 (2 : Int32)).bind (fun p24 => ((some (p24.1, p24.2))))) else (z_gA G 1 (z_R G 1133 a0) (0 : Int32) (z_gA G 1 (z_R G 1134 a0) (0 : Int32) ((f_X11_has G p21.2 a0 (z_U p21.2 (z_R G 1133 a0) ((0 : Int32)).toNatClampNeg) (z_U p21.2 (z_R G 1134 a0) ((0 : Int32)).toNatClampNeg)).bind (fun p30 => ((if p30.1 = (0 : Int32) then ((f_X11_fail G p30.2 a0 (2 : Int32)).bind (fun p55 => ((some (p55.1, p55.2))))) else (z_gA G 1 (z_R G 1133 a0) (1 : Int32) ((if (z_U p2.2 (z_R G 1133 a0) ((1 : Int32)).toNatClampNeg) = (z_U p30.2 (z_R G 1133 a0) ((1 : Int32)).toNatClampNeg) then (z_gA G 1 (z_R G 1134 a0) (1 : Int32) ((if (z_U p2.2 (z_R G 1134 a0) ((1 : Int32)).toNatClampNeg) = (z_U p30.2 (z_R G 1134 a0) ((1 : Int32)).toNatClampNeg) then (z_gA G 1 (z_R G 1133 a0) (2 : Int32) ((if (z_U p2.2 (z_R G 1133 a0) ((2 : Int32)).toNatClampNeg) = (z_U p30.2 (z_R G 1133 a0) ((2 : Int32)).toNatClampNeg) then (z_gA G 1 (z_R G 1134 a0) (2 : Int32) ((if (z_U p2.2 (z_R G 1134 a0) ((2 : Int32)).toNatClampNeg) = (z_U p30.2 (z_R G 1134 a0) ((2 : Int32)).toNatClampNeg) then ((j_X11_takeRoot_162 G p30.2  a0 (0 : Int32))) else (j_X11_takeRoot_157 G p30.2  a0)))) else (j_X11_takeRoot_157 G p30.2  a0)))) else (j_X11_takeRoot_157 G p30.2  a0)))) else (j_X11_takeRoot_157 G p30.2  a0)))))))))))))) else ((f_X11_fail G D18 a0 (3 : Int32)).bind (fun p57 => ((some (p57.1, p57.2))))))))))))))))))
set_option maxRecDepth 100000 in
set_option maxHeartbeats 4000000 in
theorem b_X11_takeRoot {q : z_Q} {X : z_X} {G : z_G} {D : z_D} {a0 : Nat} {r : Int32} {D1 : z_D} (o : z_O q X cX11_takeRoot 10 "FlashTrustModel" "takeRoot" (some .int)) (hX : x_R X = z_rm 8 0 0) (hK0 : z_K G a0 = 111) (h : f_X11_takeRoot G D a0 = some (r, D1)) : z_V q X 10 (z_F q X (some (.int r)) G D1 0 0) 0 0 G D 0 [(0, .ref (z_w q a0))] [] := by
  unfold f_X11_takeRoot at h
  refine v_aload_n o dX11_takeRoot_0 rfl 0 rfl ?_
  refine v_iconst o (0 : Int32) dX11_takeRoot_1 (by decide) ?_
  obtain ⟨p2, he1, h⟩ := z_bind h
  refine v_callV o yw_X11_takeTrusted ln_6_170 wi_X11_takeTrusted ws_X11_takeTrusted hX (by decide) 11 rfl hK0 (As := [.int (0 : Int32)]) rfl rfl (Nat.le_of_ble_eq_true rfl) (e_X11_takeTrusted hK0 he1) dX11_takeRoot_2 ?_
  refine v_istore_n o [(1, .int p2.1), (0, .ref (z_w q a0))] dX11_takeRoot_5 rfl (by decide) rfl ?_
  refine v_aload_n o dX11_takeRoot_6 rfl 1 rfl ?_
  refine gt_11_31 o hK0 ln_5_126 dX11_takeRoot_7 ?_
  refine v_istore_n o [(2, .int (z_I p2.2 1131 a0)), (1, .int p2.1), (0, .ref (z_w q a0))] dX11_takeRoot_10 rfl (by decide) rfl ?_
  refine v_aload_n o dX11_takeRoot_11 rfl 2 rfl ?_
  obtain ⟨n3, h⟩ := z_gK_of h
  refine gt_11_33 o hK0 ln_5_128 (by rw [n3]; decide) dX11_takeRoot_12 ?_
  refine v_iconst o (0 : Int32) dX11_takeRoot_15 (by decide) ?_
  obtain ⟨n4, n5, h⟩ := z_gA_of h
  refine v_iald o n4 n5 dX11_takeRoot_16 ?_
  refine v_istore_n o [(3, .int (z_U p2.2 (z_R G 1133 a0) ((0 : Int32)).toNatClampNeg)), (2, .int (z_I p2.2 1131 a0)), (1, .int p2.1), (0, .ref (z_w q a0))] dX11_takeRoot_17 rfl (by decide) rfl ?_
  refine v_aload_n o dX11_takeRoot_18 rfl 3 rfl ?_
  obtain ⟨n6, h⟩ := z_gK_of h
  refine gt_11_34 o hK0 ln_5_129 (by rw [n6]; decide) dX11_takeRoot_19 ?_
  refine v_iconst o (0 : Int32) dX11_takeRoot_22 (by decide) ?_
  obtain ⟨n7, n8, h⟩ := z_gA_of h
  refine v_iald o n7 n8 dX11_takeRoot_23 ?_
  refine v_istore o [(4, .int (z_U p2.2 (z_R G 1134 a0) ((0 : Int32)).toNatClampNeg)), (3, .int (z_U p2.2 (z_R G 1133 a0) ((0 : Int32)).toNatClampNeg)), (2, .int (z_I p2.2 1131 a0)), (1, .int p2.1), (0, .ref (z_w q a0))] dX11_takeRoot_24 (by decide) rfl ?_
  refine v_aload_n o dX11_takeRoot_26 rfl 4 rfl ?_
  refine gt_11_33 o hK0 ln_5_128 (by rw [n3]; decide) dX11_takeRoot_27 ?_
  refine v_iconst o (1 : Int32) dX11_takeRoot_30 (by decide) ?_
  obtain ⟨n9, n10, h⟩ := z_gA_of h
  refine v_iald o n9 n10 dX11_takeRoot_31 ?_
  refine v_istore o [(5, .int (z_U p2.2 (z_R G 1133 a0) ((1 : Int32)).toNatClampNeg)), (4, .int (z_U p2.2 (z_R G 1134 a0) ((0 : Int32)).toNatClampNeg)), (3, .int (z_U p2.2 (z_R G 1133 a0) ((0 : Int32)).toNatClampNeg)), (2, .int (z_I p2.2 1131 a0)), (1, .int p2.1), (0, .ref (z_w q a0))] dX11_takeRoot_32 (by decide) rfl ?_
  refine v_aload_n o dX11_takeRoot_34 rfl 5 rfl ?_
  refine gt_11_34 o hK0 ln_5_129 (by rw [n6]; decide) dX11_takeRoot_35 ?_
  refine v_iconst o (1 : Int32) dX11_takeRoot_38 (by decide) ?_
  obtain ⟨n11, n12, h⟩ := z_gA_of h
  refine v_iald o n11 n12 dX11_takeRoot_39 ?_
  refine v_istore o [(6, .int (z_U p2.2 (z_R G 1134 a0) ((1 : Int32)).toNatClampNeg)), (5, .int (z_U p2.2 (z_R G 1133 a0) ((1 : Int32)).toNatClampNeg)), (4, .int (z_U p2.2 (z_R G 1134 a0) ((0 : Int32)).toNatClampNeg)), (3, .int (z_U p2.2 (z_R G 1133 a0) ((0 : Int32)).toNatClampNeg)), (2, .int (z_I p2.2 1131 a0)), (1, .int p2.1), (0, .ref (z_w q a0))] dX11_takeRoot_40 (by decide) rfl ?_
  refine v_aload_n o dX11_takeRoot_42 rfl 6 rfl ?_
  refine gt_11_33 o hK0 ln_5_128 (by rw [n3]; decide) dX11_takeRoot_43 ?_
  refine v_iconst o (2 : Int32) dX11_takeRoot_46 (by decide) ?_
  obtain ⟨n13, n14, h⟩ := z_gA_of h
  refine v_iald o n13 n14 dX11_takeRoot_47 ?_
  refine v_istore o [(7, .int (z_U p2.2 (z_R G 1133 a0) ((2 : Int32)).toNatClampNeg)), (6, .int (z_U p2.2 (z_R G 1134 a0) ((1 : Int32)).toNatClampNeg)), (5, .int (z_U p2.2 (z_R G 1133 a0) ((1 : Int32)).toNatClampNeg)), (4, .int (z_U p2.2 (z_R G 1134 a0) ((0 : Int32)).toNatClampNeg)), (3, .int (z_U p2.2 (z_R G 1133 a0) ((0 : Int32)).toNatClampNeg)), (2, .int (z_I p2.2 1131 a0)), (1, .int p2.1), (0, .ref (z_w q a0))] dX11_takeRoot_48 (by decide) rfl ?_
  refine v_aload_n o dX11_takeRoot_50 rfl 7 rfl ?_
  refine gt_11_34 o hK0 ln_5_129 (by rw [n6]; decide) dX11_takeRoot_51 ?_
  refine v_iconst o (2 : Int32) dX11_takeRoot_54 (by decide) ?_
  obtain ⟨n15, n16, h⟩ := z_gA_of h
  refine v_iald o n15 n16 dX11_takeRoot_55 ?_
  refine v_istore o [(8, .int (z_U p2.2 (z_R G 1134 a0) ((2 : Int32)).toNatClampNeg)), (7, .int (z_U p2.2 (z_R G 1133 a0) ((2 : Int32)).toNatClampNeg)), (6, .int (z_U p2.2 (z_R G 1134 a0) ((1 : Int32)).toNatClampNeg)), (5, .int (z_U p2.2 (z_R G 1133 a0) ((1 : Int32)).toNatClampNeg)), (4, .int (z_U p2.2 (z_R G 1134 a0) ((0 : Int32)).toNatClampNeg)), (3, .int (z_U p2.2 (z_R G 1133 a0) ((0 : Int32)).toNatClampNeg)), (2, .int (z_I p2.2 1131 a0)), (1, .int p2.1), (0, .ref (z_w q a0))] dX11_takeRoot_56 (by decide) rfl ?_
  refine v_aload_n o dX11_takeRoot_58 rfl 8 rfl ?_
  obtain ⟨D18, he17, h⟩ := z_bind h
  refine v_callV o yw_X11_takeCame ln_6_183 wi_X11_takeCame ws_X11_takeCame hX (by decide) 11 rfl hK0 (As := []) rfl rfl (Nat.le_of_ble_eq_true rfl) (e_X11_takeCame hK0 he17) dX11_takeRoot_59 ?_
  refine v_aload_n o dX11_takeRoot_62 rfl 8 rfl ?_
  refine gt_11_31 o hK0 ln_5_126 dX11_takeRoot_63 ?_
  refine v_iload_n o dX11_takeRoot_66 rfl 6 rfl ?_
  refine v_iconst o (1 : Int32) dX11_takeRoot_67 (by decide) ?_
  refine v_iadd o dX11_takeRoot_68 ?_
  refine v_icmp_eq o 78 dX11_takeRoot_69 (by decide) (fun c19 => ?_) (fun c19 => ?_)
  · replace h := z_ip c19 h
    refine v_aload_n o dX11_takeRoot_78 rfl 8 rfl ?_
    refine v_iload_n o dX11_takeRoot_79 rfl 5 rfl ?_
    refine v_iload o dX11_takeRoot_80 4 rfl ?_
    obtain ⟨p21, he20, h⟩ := z_bind h
    refine v_callV o yw_X11_has ln_6_187 wi_X11_has ws_X11_has hX (by decide) 11 rfl hK0 (As := [.int (z_U p2.2 (z_R G 1133 a0) ((0 : Int32)).toNatClampNeg), .int (z_U p2.2 (z_R G 1134 a0) ((0 : Int32)).toNatClampNeg)]) rfl rfl (Nat.le_of_ble_eq_true rfl) (e_X11_has hK0 he20) dX11_takeRoot_82 ?_
    refine v_if_eq o 107 dX11_takeRoot_85 (by decide) (fun c22 => ?_) (fun c22 => ?_)
    · replace h := z_ip c22 h
      refine v_aload_n o dX11_takeRoot_107 rfl 8 rfl ?_
      refine v_iconst o (2 : Int32) dX11_takeRoot_108 (by decide) ?_
      obtain ⟨p24, he23, h⟩ := z_bind h
      refine v_callV o yw_X11_fail ln_6_117 wi_X11_fail ws_X11_fail hX (by decide) 11 rfl hK0 (As := [.int (2 : Int32)]) rfl rfl (Nat.le_of_ble_eq_true rfl) (e_X11_fail hK0 he23) dX11_takeRoot_109 ?_
      obtain ⟨hr, hs⟩ := Prod.mk.inj (z_some h)
      subst hr
      subst hs
      exact v_ireturn o dX11_takeRoot_112
    · replace h := z_in c22 h
      refine v_aload_n o dX11_takeRoot_88 rfl 8 rfl ?_
      refine v_aload_n o dX11_takeRoot_89 rfl 8 rfl ?_
      refine gt_11_33 o hK0 ln_5_128 (by rw [n3]; decide) dX11_takeRoot_90 ?_
      refine v_iconst o (0 : Int32) dX11_takeRoot_93 (by decide) ?_
      obtain ⟨n25, n26, h⟩ := z_gA_of h
      refine v_iald o n25 n26 dX11_takeRoot_94 ?_
      refine v_aload_n o dX11_takeRoot_95 rfl 8 rfl ?_
      refine gt_11_34 o hK0 ln_5_129 (by rw [n6]; decide) dX11_takeRoot_96 ?_
      refine v_iconst o (0 : Int32) dX11_takeRoot_99 (by decide) ?_
      obtain ⟨n27, n28, h⟩ := z_gA_of h
      refine v_iald o n27 n28 dX11_takeRoot_100 ?_
      obtain ⟨p30, he29, h⟩ := z_bind h
      refine v_callV o yw_X11_has ln_6_187 wi_X11_has ws_X11_has hX (by decide) 11 rfl hK0 (As := [.int (z_U p21.2 (z_R G 1133 a0) ((0 : Int32)).toNatClampNeg), .int (z_U p21.2 (z_R G 1134 a0) ((0 : Int32)).toNatClampNeg)]) rfl rfl (Nat.le_of_ble_eq_true rfl) (e_X11_has hK0 he29) dX11_takeRoot_101 ?_
      refine v_if_ne o 113 dX11_takeRoot_104 (by decide) (fun c31 => ?_) (fun c31 => ?_)
      · replace h := z_in c31 h
        refine v_iload o dX11_takeRoot_113 3 rfl ?_
        refine v_aload_n o dX11_takeRoot_115 rfl 8 rfl ?_
        refine gt_11_33 o hK0 ln_5_128 (by rw [n3]; decide) dX11_takeRoot_116 ?_
        refine v_iconst o (1 : Int32) dX11_takeRoot_119 (by decide) ?_
        obtain ⟨n32, n33, h⟩ := z_gA_of h
        refine v_iald o n32 n33 dX11_takeRoot_120 ?_
        refine v_icmp_ne o 157 dX11_takeRoot_121 (by decide) (fun c34 => ?_) (fun c34 => ?_)
        · replace h := z_in c34 h
          refine v_sub [8] rfl ?_
          exact tj_X11_takeRoot_157 o hX hK0 h
        · replace h := z_ip c34 h
          refine v_iload o dX11_takeRoot_124 2 rfl ?_
          refine v_aload_n o dX11_takeRoot_126 rfl 8 rfl ?_
          refine gt_11_34 o hK0 ln_5_129 (by rw [n6]; decide) dX11_takeRoot_127 ?_
          refine v_iconst o (1 : Int32) dX11_takeRoot_130 (by decide) ?_
          obtain ⟨n45, n46, h⟩ := z_gA_of h
          refine v_iald o n45 n46 dX11_takeRoot_131 ?_
          refine v_icmp_ne o 157 dX11_takeRoot_132 (by decide) (fun c47 => ?_) (fun c47 => ?_)
          · replace h := z_in c47 h
            refine v_sub [8] rfl ?_
            exact tj_X11_takeRoot_157 o hX hK0 h
          · replace h := z_ip c47 h
            refine v_iload o dX11_takeRoot_135 1 rfl ?_
            refine v_aload_n o dX11_takeRoot_137 rfl 8 rfl ?_
            refine gt_11_33 o hK0 ln_5_128 (by rw [n3]; decide) dX11_takeRoot_138 ?_
            refine v_iconst o (2 : Int32) dX11_takeRoot_141 (by decide) ?_
            obtain ⟨n48, n49, h⟩ := z_gA_of h
            refine v_iald o n48 n49 dX11_takeRoot_142 ?_
            refine v_icmp_ne o 157 dX11_takeRoot_143 (by decide) (fun c50 => ?_) (fun c50 => ?_)
            · replace h := z_in c50 h
              refine v_sub [8] rfl ?_
              exact tj_X11_takeRoot_157 o hX hK0 h
            · replace h := z_ip c50 h
              refine v_iload o dX11_takeRoot_146 0 rfl ?_
              refine v_aload_n o dX11_takeRoot_148 rfl 8 rfl ?_
              refine gt_11_34 o hK0 ln_5_129 (by rw [n6]; decide) dX11_takeRoot_149 ?_
              refine v_iconst o (2 : Int32) dX11_takeRoot_152 (by decide) ?_
              obtain ⟨n51, n52, h⟩ := z_gA_of h
              refine v_iald o n51 n52 dX11_takeRoot_153 ?_
              refine v_icmp_eq o 161 dX11_takeRoot_154 (by decide) (fun c53 => ?_) (fun c53 => ?_)
              · replace h := z_ip c53 h
                refine v_iconst o (0 : Int32) dX11_takeRoot_161 (by decide) ?_
                refine v_sub [8] rfl ?_
                exact tj_X11_takeRoot_162 o hX hK0 h
              · replace h := z_in c53 h
                refine v_sub [8] rfl ?_
                exact tj_X11_takeRoot_157 o hX hK0 h
      · replace h := z_ip c31 h
        refine v_aload_n o dX11_takeRoot_107 rfl 8 rfl ?_
        refine v_iconst o (2 : Int32) dX11_takeRoot_108 (by decide) ?_
        obtain ⟨p55, he54, h⟩ := z_bind h
        refine v_callV o yw_X11_fail ln_6_117 wi_X11_fail ws_X11_fail hX (by decide) 11 rfl hK0 (As := [.int (2 : Int32)]) rfl rfl (Nat.le_of_ble_eq_true rfl) (e_X11_fail hK0 he54) dX11_takeRoot_109 ?_
        obtain ⟨hr, hs⟩ := Prod.mk.inj (z_some h)
        subst hr
        subst hs
        exact v_ireturn o dX11_takeRoot_112
  · replace h := z_in c19 h
    refine v_aload_n o dX11_takeRoot_72 rfl 8 rfl ?_
    refine v_iconst o (3 : Int32) dX11_takeRoot_73 (by decide) ?_
    obtain ⟨p57, he56, h⟩ := z_bind h
    refine v_callV o yw_X11_fail ln_6_117 wi_X11_fail ws_X11_fail hX (by decide) 11 rfl hK0 (As := [.int (3 : Int32)]) rfl rfl (Nat.le_of_ble_eq_true rfl) (e_X11_fail hK0 he56) dX11_takeRoot_74 ?_
    obtain ⟨hr, hs⟩ := Prod.mk.inj (z_some h)
    subst hr
    subst hs
    exact v_ireturn o dX11_takeRoot_77
theorem e_X11_takeRoot {q : z_Q} {l : Launch} {G : z_G} {D : z_D} {a0 : Nat} {r : Int32} {D1 : z_D} (hK0 : z_K G a0 = 111) (h : f_X11_takeRoot G D a0 = some (r, D1)) : z_E q l yX11_takeRoot cX11_takeRoot 10 (some .int) 8 0 0 [.ref (z_w q a0)] G D (some (.int r)) G D1 :=
  z_E.of (by decide) (Nat.le_of_ble_eq_true rfl) (fun X hX _ o => b_X11_takeRoot o hX hK0 h)
def f_X11_takeRole (G : z_G) (D : z_D) (a0 : Nat) (a1 : Int32) : Option (z_D) :=
  (f_X11_takeTrusted G D a0 (0 : Int32)).bind (fun p2 => (z_gK G 1 (z_R G 1133 a0) (z_gA G 1 (z_R G 1133 a0) a1 (z_gK G 1 (z_R G 1134 a0) (z_gA G 1 (z_R G 1134 a0) a1 ((some (z_sI (z_sI p2.2 1157 a0 (z_U p2.2 (z_R G 1133 a0) (a1).toNatClampNeg)) 1158 a0 (z_U (z_sI p2.2 1157 a0 (z_U p2.2 (z_R G 1133 a0) (a1).toNatClampNeg)) (z_R G 1134 a0) (a1).toNatClampNeg)))))))))
set_option maxRecDepth 100000 in
set_option maxHeartbeats 4000000 in
theorem b_X11_takeRole {q : z_Q} {X : z_X} {G : z_G} {D : z_D} {a0 : Nat} {a1 : Int32}  {D1 : z_D} (o : z_O q X cX11_takeRole 3 "FlashTrustModel" "takeRole" none) (hX : x_R X = z_rm 7 0 0) (hK0 : z_K G a0 = 111) (h : f_X11_takeRole G D a0 a1 = some D1) : z_V q X 3 (z_F q X none G D1 0 0) 0 0 G D 0 [(0, .ref (z_w q a0)), (1, .int a1)] [] := by
  unfold f_X11_takeRole at h
  refine v_aload_n o dX11_takeRole_0 rfl 0 rfl ?_
  refine v_iconst o (0 : Int32) dX11_takeRole_1 (by decide) ?_
  obtain ⟨p2, he1, h⟩ := z_bind h
  refine v_callV o yw_X11_takeTrusted ln_6_170 wi_X11_takeTrusted ws_X11_takeTrusted hX (by decide) 11 rfl hK0 (As := [.int (0 : Int32)]) rfl rfl (Nat.le_of_ble_eq_true rfl) (e_X11_takeTrusted hK0 he1) dX11_takeRole_2 ?_
  refine v_istore_n o [(2, .int p2.1), (0, .ref (z_w q a0)), (1, .int a1)] dX11_takeRole_5 rfl (by decide) rfl ?_
  refine v_aload_n o dX11_takeRole_6 rfl 1 rfl ?_
  refine v_aload_n o dX11_takeRole_7 rfl 1 rfl ?_
  obtain ⟨n3, h⟩ := z_gK_of h
  refine gt_11_33 o hK0 ln_5_128 (by rw [n3]; decide) dX11_takeRole_8 ?_
  refine v_iload_n o dX11_takeRole_11 rfl 2 rfl ?_
  obtain ⟨n4, n5, h⟩ := z_gA_of h
  refine v_iald o n4 n5 dX11_takeRole_12 ?_
  refine pt_11_57 o hK0 ln_5_152 dX11_takeRole_13 ?_
  refine v_aload_n o dX11_takeRole_16 rfl 1 rfl ?_
  refine v_aload_n o dX11_takeRole_17 rfl 1 rfl ?_
  obtain ⟨n6, h⟩ := z_gK_of h
  refine gt_11_34 o hK0 ln_5_129 (by rw [n6]; decide) dX11_takeRole_18 ?_
  refine v_iload_n o dX11_takeRole_21 rfl 2 rfl ?_
  obtain ⟨n7, n8, h⟩ := z_gA_of h
  refine v_iald o n7 n8 dX11_takeRole_22 ?_
  refine pt_11_58 o hK0 ln_5_153 dX11_takeRole_23 ?_
  have hr := z_some h
  subst hr
  exact v_return o dX11_takeRole_26
theorem e_X11_takeRole {q : z_Q} {l : Launch} {G : z_G} {D : z_D} {a0 : Nat} {a1 : Int32}  {D1 : z_D} (hK0 : z_K G a0 = 111) (h : f_X11_takeRole G D a0 a1 = some D1) : z_E q l yX11_takeRole cX11_takeRole 3 none 7 0 0 [.ref (z_w q a0), .int a1] G D none G D1 :=
  z_E.of (by decide) (Nat.le_of_ble_eq_true rfl) (fun X hX _ o => b_X11_takeRole o hX hK0 h)
def j_X11_takeWas_44 (G : z_G) (D : z_D) (a0 : Nat) (s0 : Int32) (s1 : Nat) : Option (z_D) :=
  z_gK G 111 s1 ((if (z_I (z_sI D 1161 s1 s0) 1159 a0) = (0 : Int32) then ((some (z_sJ (z_sI D 1161 s1 s0) 1162 a0 (0 : Int64)))) else ((f_X11_bodyDigest G (z_sI D 1161 s1 s0) a0).bind (fun p10 => (((some (z_sJ p10.2 1162 a0 p10.1))))))))
set_option maxRecDepth 100000 in
set_option maxHeartbeats 4000000 in
theorem tj_X11_takeWas_44 {q : z_Q} {X : z_X} {G : z_G} {D : z_D} {a0 : Nat} {s0 : Int32} {s1 : Nat}  {D1 : z_D} (o : z_O q X cX11_takeWas 2 "FlashTrustModel" "takeWas" none) (hX : x_R X = z_rm 7 0 0) (hK0 : z_K G a0 = 111) (h : j_X11_takeWas_44 G D a0 s0 s1 = some D1) : z_V q X 2 (z_F q X none G D1 0 0) 0 0 G D 44 [(0, .ref (z_w q a0))] [.int s0, .ref (z_w q s1)] := by
  unfold j_X11_takeWas_44 at h
  obtain ⟨n7, h⟩ := z_gK_of h
  refine pt_11_61 o n7 ln_5_156 dX11_takeWas_44 ?_
  refine v_aload_n o dX11_takeWas_47 rfl 0 rfl ?_
  refine v_aload_n o dX11_takeWas_48 rfl 0 rfl ?_
  refine gt_11_59 o hK0 ln_5_154 dX11_takeWas_49 ?_
  refine v_if_eq o 62 dX11_takeWas_52 (by decide) (fun c8 => ?_) (fun c8 => ?_)
  · replace h := z_ip c8 h
    refine v_lconst o (0 : Int64) dX11_takeWas_62 (by decide) ?_
    refine pt_11_62 o hK0 ln_5_157 dX11_takeWas_63 ?_
    have hr := z_some h
    subst hr
    exact v_return o dX11_takeWas_66
  · replace h := z_in c8 h
    refine v_aload_n o dX11_takeWas_55 rfl 0 rfl ?_
    obtain ⟨p10, he9, h⟩ := z_bind h
    refine v_callV o yw_X11_bodyDigest ln_6_191 wi_X11_bodyDigest ws_X11_bodyDigest hX (by decide) 11 rfl hK0 (As := []) rfl rfl (Nat.le_of_ble_eq_true rfl) (e_X11_bodyDigest hK0 he9) dX11_takeWas_56 ?_
    refine v_goto o 63 dX11_takeWas_59 (by decide) ?_
    refine pt_11_62 o hK0 ln_5_157 dX11_takeWas_63 ?_
    have hr := z_some h
    subst hr
    exact v_return o dX11_takeWas_66
def j_X11_takeWas_25 (G : z_G) (D : z_D) (a0 : Nat) (s0 : Int32) (s1 : Nat) : Option (z_D) :=
  z_gK G 111 s1 ((if (z_I (z_sI D 1160 s1 s0) 1159 a0) = (0 : Int32) then ((j_X11_takeWas_44 G (z_sI D 1160 s1 s0)  a0 (0 : Int32) a0)) else ((j_X11_takeWas_44 G (z_sI D 1160 s1 s0)  a0 (z_I (z_sI D 1160 s1 s0) 1135 a0) a0))))
set_option maxRecDepth 100000 in
set_option maxHeartbeats 4000000 in
theorem tj_X11_takeWas_25 {q : z_Q} {X : z_X} {G : z_G} {D : z_D} {a0 : Nat} {s0 : Int32} {s1 : Nat}  {D1 : z_D} (o : z_O q X cX11_takeWas 2 "FlashTrustModel" "takeWas" none) (hX : x_R X = z_rm 7 0 0) (hK0 : z_K G a0 = 111) (h : j_X11_takeWas_25 G D a0 s0 s1 = some D1) : z_V q X 2 (z_F q X none G D1 0 0) 0 0 G D 25 [(0, .ref (z_w q a0))] [.int s0, .ref (z_w q s1)] := by
  unfold j_X11_takeWas_25 at h
  obtain ⟨n5, h⟩ := z_gK_of h
  refine pt_11_60 o n5 ln_5_155 dX11_takeWas_25 ?_
  refine v_aload_n o dX11_takeWas_28 rfl 0 rfl ?_
  refine v_aload_n o dX11_takeWas_29 rfl 0 rfl ?_
  refine gt_11_59 o hK0 ln_5_154 dX11_takeWas_30 ?_
  refine v_if_eq o 43 dX11_takeWas_33 (by decide) (fun c6 => ?_) (fun c6 => ?_)
  · replace h := z_ip c6 h
    refine v_iconst o (0 : Int32) dX11_takeWas_43 (by decide) ?_
    exact tj_X11_takeWas_44 o hX hK0 h
  · replace h := z_in c6 h
    refine v_aload_n o dX11_takeWas_36 rfl 0 rfl ?_
    refine gt_11_35 o hK0 ln_5_130 dX11_takeWas_37 ?_
    refine v_goto o 44 dX11_takeWas_40 (by decide) ?_
    exact tj_X11_takeWas_44 o hX hK0 h
def f_X11_takeWas (G : z_G) (D : z_D) (a0 : Nat) (a1 : Int32) : Option (z_D) :=
  (f_X11_takeTrusted G D a0 a1).bind (fun p2 => (z_gB p2.1 ((if (z_I (z_sI p2.2 1159 a0 p2.1) 1159 a0) = (0 : Int32) then ((j_X11_takeWas_25 G (z_sI p2.2 1159 a0 p2.1)  a0 (0 : Int32) a0)) else ((j_X11_takeWas_25 G (z_sI p2.2 1159 a0 p2.1)  a0 (z_I (z_sI p2.2 1159 a0 p2.1) 1131 a0) a0))))))
set_option maxRecDepth 100000 in
set_option maxHeartbeats 4000000 in
theorem b_X11_takeWas {q : z_Q} {X : z_X} {G : z_G} {D : z_D} {a0 : Nat} {a1 : Int32}  {D1 : z_D} (o : z_O q X cX11_takeWas 2 "FlashTrustModel" "takeWas" none) (hX : x_R X = z_rm 7 0 0) (hK0 : z_K G a0 = 111) (h : f_X11_takeWas G D a0 a1 = some D1) : z_V q X 2 (z_F q X none G D1 0 0) 0 0 G D 0 [(0, .ref (z_w q a0)), (1, .int a1)] [] := by
  unfold f_X11_takeWas at h
  refine v_aload_n o dX11_takeWas_0 rfl 0 rfl ?_
  refine v_aload_n o dX11_takeWas_1 rfl 0 rfl ?_
  refine v_iload_n o dX11_takeWas_2 rfl 1 rfl ?_
  obtain ⟨p2, he1, h⟩ := z_bind h
  refine v_callV o yw_X11_takeTrusted ln_6_170 wi_X11_takeTrusted ws_X11_takeTrusted hX (by decide) 11 rfl hK0 (As := [.int a1]) rfl rfl (Nat.le_of_ble_eq_true rfl) (e_X11_takeTrusted hK0 he1) dX11_takeWas_3 ?_
  obtain ⟨n3, h⟩ := z_gB_of h
  refine pt_11_59 o hK0 ln_5_154 n3 dX11_takeWas_6 ?_
  refine v_aload_n o dX11_takeWas_9 rfl 0 rfl ?_
  refine v_aload_n o dX11_takeWas_10 rfl 0 rfl ?_
  refine gt_11_59 o hK0 ln_5_154 dX11_takeWas_11 ?_
  refine v_if_eq o 24 dX11_takeWas_14 (by decide) (fun c4 => ?_) (fun c4 => ?_)
  · replace h := z_ip c4 h
    refine v_iconst o (0 : Int32) dX11_takeWas_24 (by decide) ?_
    refine v_sub [0] rfl ?_
    exact tj_X11_takeWas_25 o hX hK0 h
  · replace h := z_in c4 h
    refine v_aload_n o dX11_takeWas_17 rfl 0 rfl ?_
    refine gt_11_31 o hK0 ln_5_126 dX11_takeWas_18 ?_
    refine v_goto o 25 dX11_takeWas_21 (by decide) ?_
    refine v_sub [0] rfl ?_
    exact tj_X11_takeWas_25 o hX hK0 h
theorem e_X11_takeWas {q : z_Q} {l : Launch} {G : z_G} {D : z_D} {a0 : Nat} {a1 : Int32}  {D1 : z_D} (hK0 : z_K G a0 = 111) (h : f_X11_takeWas G D a0 a1 = some D1) : z_E q l yX11_takeWas cX11_takeWas 2 none 7 0 0 [.ref (z_w q a0), .int a1] G D none G D1 :=
  z_E.of (by decide) (Nat.le_of_ble_eq_true rfl) (fun X hX _ o => b_X11_takeWas o hX hK0 h)
def p_X11_keepOther_22 (q : z_Q) (X : z_X) (Q : State → Prop) (G : z_G) (a0 : Nat) (a3 : Int32) : (z_D × Int32) → Prop := (fun v => z_V q X 6 Q 0 0 G v.1 22 [(0, .ref (z_w q a0)), (3, .int a3), (4, .int v.2)] [])
def x_X11_keepOther_22 (q : z_Q) (X : z_X) (Q : State → Prop) (G : z_G) (a0 : Nat) (a3 : Int32) : z_D → Prop := (fun v => z_V q X 6 Q 0 0 G v 51 [(0, .ref (z_w q a0)), (3, .int a3)] [])
def k_X11_keepOther_22 (q : z_Q) (X : z_X) (Q : State → Prop) (G : z_G) (a0 : Nat) (a3 : Int32) : (z_D × Int32) ⊕ z_D → Prop := Sum.elim (p_X11_keepOther_22 q X Q G a0 a3) (x_X11_keepOther_22 q X Q G a0 a3)
def c_X11_keepOther_22 (G : z_G) (D : z_D) (a0 : Nat) (a3 : Int32) (a4 : Int32) : Option ((z_D × Int32) ⊕ z_D) :=
  (if (z_I D 1126 a0) ≤ a4 then (some (.inr D)) else (z_gK G 1 (z_R G 1147 a0) (z_gK G 1 (z_R G 1125 a0) (z_gA G 1 (z_R G 1125 a0) a4 (z_gA G 1 (z_R G 1147 a0) a4 ((some (.inl ((z_sU D (z_R G 1147 a0) (a4).toNatClampNeg (z_U D (z_R G 1125 a0) (a4).toNatClampNeg)), (a4 + (1 : Int32)))))))))))
set_option maxRecDepth 100000 in
set_option maxHeartbeats 4000000 in
theorem tc_X11_keepOther_22 {q : z_Q} {X : z_X} {G : z_G} {D : z_D} {Q : State → Prop} {a0 : Nat} {a3 : Int32} {a4 : Int32} (o : z_O q X cX11_keepOther 6 "FlashTrustModel" "keepOther" none) (hX : x_R X = z_rm 8 0 0) (hK0 : z_K G a0 = 111) {ρ : (z_D × Int32) ⊕ z_D} (h : c_X11_keepOther_22 G D a0 a3 a4 = some ρ) (hk : k_X11_keepOther_22 q X Q G a0 a3 ρ) : z_V q X 6 Q 0 0 G D 22 [(0, .ref (z_w q a0)), (3, .int a3), (4, .int a4)] [] := by
  unfold c_X11_keepOther_22 at h
  refine v_iload o dX11_keepOther_22 2 rfl ?_
  refine v_aload_n o dX11_keepOther_24 rfl 0 rfl ?_
  refine gt_11_26 o hK0 ln_5_121 dX11_keepOther_25 ?_
  refine v_icmp_ge o 51 dX11_keepOther_28 (by decide) (fun c4 => ?_) (fun c4 => ?_)
  · replace h := z_ip c4 h
    obtain rfl := z_some h
    refine v_sub [0, 1] rfl ?_
    exact hk
  · replace h := z_in c4 h
    refine v_aload_n o dX11_keepOther_31 rfl 0 rfl ?_
    obtain ⟨n5, h⟩ := z_gK_of h
    refine gt_11_47 o hK0 ln_5_142 (by rw [n5]; decide) dX11_keepOther_32 ?_
    refine v_iload o dX11_keepOther_35 2 rfl ?_
    refine v_aload_n o dX11_keepOther_37 rfl 0 rfl ?_
    obtain ⟨n6, h⟩ := z_gK_of h
    refine gt_11_25 o hK0 ln_5_120 (by rw [n6]; decide) dX11_keepOther_38 ?_
    refine v_iload o dX11_keepOther_41 2 rfl ?_
    obtain ⟨n7, n8, h⟩ := z_gA_of h
    refine v_iald o n7 n8 dX11_keepOther_43 ?_
    obtain ⟨n9, n10, h⟩ := z_gA_of h
    refine v_iast o n9 n10 dX11_keepOther_44 ?_
    refine v_iinc o (a4 + (1 : Int32)) [(4, .int (a4 + (1 : Int32))), (0, .ref (z_w q a0)), (3, .int a3)] dX11_keepOther_45 2 rfl rfl (by decide) rfl ?_
    refine v_goto o 22 dX11_keepOther_48 (by decide) ?_
    obtain rfl := z_some h
    refine v_sub [1, 2, 0] rfl ?_
    exact hk
def p_X11_keepOther_73 (q : z_Q) (X : z_X) (Q : State → Prop) (G : z_G) (D : z_D) (a0 : Nat) : (Int32 × Int32) → Prop := (fun v => z_V q X 6 Q 0 0 G D 73 [(0, .ref (z_w q a0)), (4, .int v.1), (5, .int v.2)] [])
def x_X11_keepOther_73 (q : z_Q) (X : z_X) (Q : State → Prop) (G : z_G) (D : z_D) (a0 : Nat) : Int32 → Prop := (fun v => z_V q X 6 Q 0 0 G D 121 [(0, .ref (z_w q a0)), (4, .int v)] [])
def k_X11_keepOther_73 (q : z_Q) (X : z_X) (Q : State → Prop) (G : z_G) (D : z_D) (a0 : Nat) : (Int32 × Int32) ⊕ Int32 → Prop := Sum.elim (p_X11_keepOther_73 q X Q G D a0) (x_X11_keepOther_73 q X Q G D a0)
def c_X11_keepOther_73 (G : z_G) (D : z_D) (a0 : Nat) (a4 : Int32) (a5 : Int32) : Option ((Int32 × Int32) ⊕ Int32) :=
  (if (z_I D 1129 a0) ≤ a5 then (some (.inr a4)) else ((if a4 = (0 : Int32) then (some (.inr a4)) else (z_gK G 1 (z_R G 1147 a0) (z_gA G 1 (z_R G 1147 a0) ((3 : Int32) + a5) (z_gK G 1 (z_R G 1125 a0) (z_gA G 1 (z_R G 1125 a0) ((3 : Int32) + a5) ((if (z_U D (z_R G 1147 a0) (((3 : Int32) + a5)).toNatClampNeg) = (z_U D (z_R G 1125 a0) (((3 : Int32) + a5)).toNatClampNeg) then (((some (.inl ((1 : Int32), (a5 + (1 : Int32))))))) else ((some (.inl ((0 : Int32), (a5 + (1 : Int32)))))))))))))))
set_option maxRecDepth 100000 in
set_option maxHeartbeats 4000000 in
theorem tc_X11_keepOther_73 {q : z_Q} {X : z_X} {G : z_G} {D : z_D} {Q : State → Prop} {a0 : Nat} {a4 : Int32} {a5 : Int32} (o : z_O q X cX11_keepOther 6 "FlashTrustModel" "keepOther" none) (hX : x_R X = z_rm 8 0 0) (hK0 : z_K G a0 = 111) {ρ : (Int32 × Int32) ⊕ Int32} (h : c_X11_keepOther_73 G D a0 a4 a5 = some ρ) (hk : k_X11_keepOther_73 q X Q G D a0 ρ) : z_V q X 6 Q 0 0 G D 73 [(0, .ref (z_w q a0)), (4, .int a4), (5, .int a5)] [] := by
  unfold c_X11_keepOther_73 at h
  refine v_iload o dX11_keepOther_73 2 rfl ?_
  refine v_aload_n o dX11_keepOther_75 rfl 0 rfl ?_
  refine gt_11_29 o hK0 ln_5_124 dX11_keepOther_76 ?_
  refine v_icmp_ge o 121 dX11_keepOther_79 (by decide) (fun c16 => ?_) (fun c16 => ?_)
  · replace h := z_ip c16 h
    obtain rfl := z_some h
    refine v_sub [0, 1] rfl ?_
    exact hk
  · replace h := z_in c16 h
    refine v_iload o dX11_keepOther_82 1 rfl ?_
    refine v_if_eq o 121 dX11_keepOther_84 (by decide) (fun c17 => ?_) (fun c17 => ?_)
    · replace h := z_ip c17 h
      obtain rfl := z_some h
      refine v_sub [0, 1] rfl ?_
      exact hk
    · replace h := z_in c17 h
      refine v_aload_n o dX11_keepOther_87 rfl 0 rfl ?_
      obtain ⟨n18, h⟩ := z_gK_of h
      refine gt_11_47 o hK0 ln_5_142 (by rw [n18]; decide) dX11_keepOther_88 ?_
      refine v_iconst o (3 : Int32) dX11_keepOther_91 (by decide) ?_
      refine v_iload o dX11_keepOther_92 2 rfl ?_
      refine v_iadd o dX11_keepOther_94 ?_
      obtain ⟨n19, n20, h⟩ := z_gA_of h
      refine v_iald o n19 n20 dX11_keepOther_95 ?_
      refine v_aload_n o dX11_keepOther_96 rfl 0 rfl ?_
      obtain ⟨n21, h⟩ := z_gK_of h
      refine gt_11_25 o hK0 ln_5_120 (by rw [n21]; decide) dX11_keepOther_97 ?_
      refine v_iconst o (3 : Int32) dX11_keepOther_100 (by decide) ?_
      refine v_iload o dX11_keepOther_101 2 rfl ?_
      refine v_iadd o dX11_keepOther_103 ?_
      obtain ⟨n22, n23, h⟩ := z_gA_of h
      refine v_iald o n22 n23 dX11_keepOther_104 ?_
      refine v_icmp_ne o 112 dX11_keepOther_105 (by decide) (fun c24 => ?_) (fun c24 => ?_)
      · replace h := z_in c24 h
        refine v_iconst o (0 : Int32) dX11_keepOther_112 (by decide) ?_
        refine v_istore o [(4, .int (0 : Int32)), (0, .ref (z_w q a0)), (5, .int a5)] dX11_keepOther_113 (by decide) rfl ?_
        refine v_iinc o (a5 + (1 : Int32)) [(5, .int (a5 + (1 : Int32))), (4, .int (0 : Int32)), (0, .ref (z_w q a0))] dX11_keepOther_115 2 rfl rfl (by decide) rfl ?_
        refine v_goto o 73 dX11_keepOther_118 (by decide) ?_
        obtain rfl := z_some h
        refine v_sub [2, 1, 0] rfl ?_
        exact hk
      · replace h := z_ip c24 h
        refine v_iconst o (1 : Int32) dX11_keepOther_108 (by decide) ?_
        refine v_goto o 113 dX11_keepOther_109 (by decide) ?_
        refine v_istore o [(4, .int (1 : Int32)), (0, .ref (z_w q a0)), (5, .int a5)] dX11_keepOther_113 (by decide) rfl ?_
        refine v_iinc o (a5 + (1 : Int32)) [(5, .int (a5 + (1 : Int32))), (4, .int (1 : Int32)), (0, .ref (z_w q a0))] dX11_keepOther_115 2 rfl rfl (by decide) rfl ?_
        refine v_goto o 73 dX11_keepOther_118 (by decide) ?_
        obtain rfl := z_some h
        refine v_sub [2, 1, 0] rfl ?_
        exact hk
def j_X11_keepOther_68 (G : z_G) (D : z_D) (a0 : Nat) (s0 : Int32) : Option (z_D) :=
  ((z_loop (fun v => c_X11_keepOther_73 G D a0 v.1 v.2) 4000 (s0, (0 : Int32))).bind (fun e25 => (if e25 = (0 : Int32) then ((f_X11_keepDoc G D a0).bind (fun D29 => ((some D29)))) else ((some D)))))
set_option maxRecDepth 100000 in
set_option maxHeartbeats 4000000 in
theorem tj_X11_keepOther_68 {q : z_Q} {X : z_X} {G : z_G} {D : z_D} {a0 : Nat} {s0 : Int32}  {D1 : z_D} (o : z_O q X cX11_keepOther 6 "FlashTrustModel" "keepOther" none) (hX : x_R X = z_rm 8 0 0) (hK0 : z_K G a0 = 111) (h : j_X11_keepOther_68 G D a0 s0 = some D1) : z_V q X 6 (z_F q X none G D1 0 0) 0 0 G D 68 [(0, .ref (z_w q a0))] [.int s0] := by
  unfold j_X11_keepOther_68 at h
  refine v_istore o [(4, .int s0), (0, .ref (z_w q a0))] dX11_keepOther_68 (by decide) rfl ?_
  refine v_iconst o (0 : Int32) dX11_keepOther_70 (by decide) ?_
  refine v_istore o [(5, .int (0 : Int32)), (4, .int s0), (0, .ref (z_w q a0))] dX11_keepOther_71 (by decide) rfl ?_
  refine v_sub [2, 1, 0] rfl ?_
  obtain ⟨e25, he26, h⟩ := z_bind h
  refine z_loopV (P := p_X11_keepOther_73 q X _ G D a0) (E := x_X11_keepOther_73 q X _ G D a0) (fun v ρ hb hk => tc_X11_keepOther_73 (D := D) (a0 := a0) (a4 := v.1) (a5 := v.2) o hX hK0 hb hk) 4000 _ e25 he26 ?_
  show z_V q X 6 _ _ _ G D 121 [(0, .ref (z_w q a0)), (4, .int e25)] []
  refine v_iload o dX11_keepOther_121 1 rfl ?_
  refine v_if_ne o 130 dX11_keepOther_123 (by decide) (fun c27 => ?_) (fun c27 => ?_)
  · replace h := z_in c27 h
    have hr := z_some h
    subst hr
    exact v_return o dX11_keepOther_130
  · replace h := z_ip c27 h
    refine v_aload_n o dX11_keepOther_126 rfl 0 rfl ?_
    obtain ⟨D29, he28, h⟩ := z_bind h
    refine v_callV o yw_X11_keepDoc ln_6_207 wi_X11_keepDoc ws_X11_keepDoc hX (by decide) 11 rfl hK0 (As := []) rfl rfl (Nat.le_of_ble_eq_true rfl) (e_X11_keepDoc hK0 he28) dX11_keepOther_127 ?_
    have hr := z_some h
    subst hr
    exact v_return o dX11_keepOther_130
def j_X11_keepOther_18 (G : z_G) (D : z_D) (a0 : Nat) (s0 : Int32) : Option (z_D) :=
  ((z_loop (fun v => c_X11_keepOther_22 G v.1 a0 s0 v.2) 4000 (D, (0 : Int32))).bind (fun e11 => (f_X11_takeCame G e11 a0).bind (fun D14 => ((if s0 = (z_I D14 1129 a0) then ((j_X11_keepOther_68 G D14  a0 (1 : Int32))) else ((j_X11_keepOther_68 G D14  a0 (0 : Int32))))))))
set_option maxRecDepth 100000 in
set_option maxHeartbeats 4000000 in
theorem tj_X11_keepOther_18 {q : z_Q} {X : z_X} {G : z_G} {D : z_D} {a0 : Nat} {s0 : Int32}  {D1 : z_D} (o : z_O q X cX11_keepOther 6 "FlashTrustModel" "keepOther" none) (hX : x_R X = z_rm 8 0 0) (hK0 : z_K G a0 = 111) (h : j_X11_keepOther_18 G D a0 s0 = some D1) : z_V q X 6 (z_F q X none G D1 0 0) 0 0 G D 18 [(0, .ref (z_w q a0))] [.int s0] := by
  unfold j_X11_keepOther_18 at h
  refine v_istore_n o [(3, .int s0), (0, .ref (z_w q a0))] dX11_keepOther_18 rfl (by decide) rfl ?_
  refine v_iconst o (0 : Int32) dX11_keepOther_19 (by decide) ?_
  refine v_istore o [(4, .int (0 : Int32)), (3, .int s0), (0, .ref (z_w q a0))] dX11_keepOther_20 (by decide) rfl ?_
  refine v_sub [2, 1, 0] rfl ?_
  obtain ⟨e11, he12, h⟩ := z_bind h
  refine z_loopV (P := p_X11_keepOther_22 q X _ G a0 s0) (E := x_X11_keepOther_22 q X _ G a0 s0) (fun v ρ hb hk => tc_X11_keepOther_22 (D := v.1) (a0 := a0) (a3 := s0) (a4 := v.2) o hX hK0 hb hk) 4000 _ e11 he12 ?_
  show z_V q X 6 _ _ _ G e11 51 [(0, .ref (z_w q a0)), (3, .int s0)] []
  refine v_aload_n o dX11_keepOther_51 rfl 0 rfl ?_
  obtain ⟨D14, he13, h⟩ := z_bind h
  refine v_callV o yw_X11_takeCame ln_6_183 wi_X11_takeCame ws_X11_takeCame hX (by decide) 11 rfl hK0 (As := []) rfl rfl (Nat.le_of_ble_eq_true rfl) (e_X11_takeCame hK0 he13) dX11_keepOther_52 ?_
  refine v_iload_n o dX11_keepOther_55 rfl 1 rfl ?_
  refine v_aload_n o dX11_keepOther_56 rfl 0 rfl ?_
  refine gt_11_29 o hK0 ln_5_124 dX11_keepOther_57 ?_
  refine v_icmp_ne o 67 dX11_keepOther_60 (by decide) (fun c15 => ?_) (fun c15 => ?_)
  · replace h := z_in c15 h
    refine v_iconst o (0 : Int32) dX11_keepOther_67 (by decide) ?_
    refine v_sub [0] rfl ?_
    exact tj_X11_keepOther_68 o hX hK0 h
  · replace h := z_ip c15 h
    refine v_iconst o (1 : Int32) dX11_keepOther_63 (by decide) ?_
    refine v_goto o 68 dX11_keepOther_64 (by decide) ?_
    refine v_sub [0] rfl ?_
    exact tj_X11_keepOther_68 o hX hK0 h
def f_X11_keepOther (G : z_G) (D : z_D) (a0 : Nat) (a1 : Int32) : Option (z_D) :=
  (f_X11_takeTrusted G D a0 a1).bind (fun p2 => ((if p2.1 = (0 : Int32) then ((j_X11_keepOther_18 G p2.2  a0 (-1 : Int32))) else ((j_X11_keepOther_18 G p2.2  a0 (z_I p2.2 1129 a0))))))
set_option maxRecDepth 100000 in
set_option maxHeartbeats 4000000 in
theorem b_X11_keepOther {q : z_Q} {X : z_X} {G : z_G} {D : z_D} {a0 : Nat} {a1 : Int32}  {D1 : z_D} (o : z_O q X cX11_keepOther 6 "FlashTrustModel" "keepOther" none) (hX : x_R X = z_rm 8 0 0) (hK0 : z_K G a0 = 111) (h : f_X11_keepOther G D a0 a1 = some D1) : z_V q X 6 (z_F q X none G D1 0 0) 0 0 G D 0 [(0, .ref (z_w q a0)), (1, .int a1)] [] := by
  unfold f_X11_keepOther at h
  refine v_aload_n o dX11_keepOther_0 rfl 0 rfl ?_
  refine v_iload_n o dX11_keepOther_1 rfl 1 rfl ?_
  obtain ⟨p2, he1, h⟩ := z_bind h
  refine v_callV o yw_X11_takeTrusted ln_6_170 wi_X11_takeTrusted ws_X11_takeTrusted hX (by decide) 11 rfl hK0 (As := [.int a1]) rfl rfl (Nat.le_of_ble_eq_true rfl) (e_X11_takeTrusted hK0 he1) dX11_keepOther_2 ?_
  refine v_istore_n o [(2, .int p2.1), (0, .ref (z_w q a0)), (1, .int a1)] dX11_keepOther_5 rfl (by decide) rfl ?_
  refine v_iload_n o dX11_keepOther_6 rfl 0 rfl ?_
  refine v_if_eq o 17 dX11_keepOther_7 (by decide) (fun c3 => ?_) (fun c3 => ?_)
  · replace h := z_ip c3 h
    refine v_iconst o (-1 : Int32) dX11_keepOther_17 (by decide) ?_
    refine v_sub [1] rfl ?_
    exact tj_X11_keepOther_18 o hX hK0 h
  · replace h := z_in c3 h
    refine v_aload_n o dX11_keepOther_10 rfl 1 rfl ?_
    refine gt_11_29 o hK0 ln_5_124 dX11_keepOther_11 ?_
    refine v_goto o 18 dX11_keepOther_14 (by decide) ?_
    refine v_sub [1] rfl ?_
    exact tj_X11_keepOther_18 o hX hK0 h
theorem e_X11_keepOther {q : z_Q} {l : Launch} {G : z_G} {D : z_D} {a0 : Nat} {a1 : Int32}  {D1 : z_D} (hK0 : z_K G a0 = 111) (h : f_X11_keepOther G D a0 a1 = some D1) : z_E q l yX11_keepOther cX11_keepOther 6 none 8 0 0 [.ref (z_w q a0), .int a1] G D none G D1 :=
  z_E.of (by decide) (Nat.le_of_ble_eq_true rfl) (fun X hX _ o => b_X11_keepOther o hX hK0 h)
def p_X11_saveCame_10 (q : z_Q) (X : z_X) (Q : State → Prop) (G : z_G) (a0 : Nat) : (z_D × Int32) → Prop := (fun v => z_V q X 2 Q 0 0 G v.1 10 [(0, .ref (z_w q a0)), (1, .int v.2)] [])
def x_X11_saveCame_10 (q : z_Q) (X : z_X) (Q : State → Prop) (G : z_G) (a0 : Nat) : z_D → Prop := (fun v => z_V q X 2 Q 0 0 G v 36 [] [])
def k_X11_saveCame_10 (q : z_Q) (X : z_X) (Q : State → Prop) (G : z_G) (a0 : Nat) : (z_D × Int32) ⊕ z_D → Prop := Sum.elim (p_X11_saveCame_10 q X Q G a0) (x_X11_saveCame_10 q X Q G a0)
def c_X11_saveCame_10 (G : z_G) (D : z_D) (a0 : Nat) (a1 : Int32) : Option ((z_D × Int32) ⊕ z_D) :=
  (if (z_I D 1126 a0) ≤ a1 then (some (.inr D)) else (z_gK G 1 (z_R G 1155 a0) (z_gK G 1 (z_R G 1125 a0) (z_gA G 1 (z_R G 1125 a0) a1 (z_gA G 1 (z_R G 1155 a0) a1 ((some (.inl ((z_sU D (z_R G 1155 a0) (a1).toNatClampNeg (z_U D (z_R G 1125 a0) (a1).toNatClampNeg)), (a1 + (1 : Int32)))))))))))
set_option maxRecDepth 100000 in
set_option maxHeartbeats 4000000 in
theorem tc_X11_saveCame_10 {q : z_Q} {X : z_X} {G : z_G} {D : z_D} {Q : State → Prop} {a0 : Nat} {a1 : Int32} (o : z_O q X cX11_saveCame 2 "FlashTrustModel" "saveCame" none) (hX : x_R X = z_rm 0 0 0) (hK0 : z_K G a0 = 111) {ρ : (z_D × Int32) ⊕ z_D} (h : c_X11_saveCame_10 G D a0 a1 = some ρ) (hk : k_X11_saveCame_10 q X Q G a0 ρ) : z_V q X 2 Q 0 0 G D 10 [(0, .ref (z_w q a0)), (1, .int a1)] [] := by
  unfold c_X11_saveCame_10 at h
  refine v_iload_n o dX11_saveCame_10 rfl 1 rfl ?_
  refine v_aload_n o dX11_saveCame_11 rfl 0 rfl ?_
  refine gt_11_26 o hK0 ln_5_121 dX11_saveCame_12 ?_
  refine v_icmp_ge o 36 dX11_saveCame_15 (by decide) (fun c1 => ?_) (fun c1 => ?_)
  · replace h := z_ip c1 h
    obtain rfl := z_some h
    refine v_sub [] rfl ?_
    exact hk
  · replace h := z_in c1 h
    refine v_aload_n o dX11_saveCame_18 rfl 0 rfl ?_
    obtain ⟨n2, h⟩ := z_gK_of h
    refine gt_11_55 o hK0 ln_5_150 (by rw [n2]; decide) dX11_saveCame_19 ?_
    refine v_iload_n o dX11_saveCame_22 rfl 1 rfl ?_
    refine v_aload_n o dX11_saveCame_23 rfl 0 rfl ?_
    obtain ⟨n3, h⟩ := z_gK_of h
    refine gt_11_25 o hK0 ln_5_120 (by rw [n3]; decide) dX11_saveCame_24 ?_
    refine v_iload_n o dX11_saveCame_27 rfl 1 rfl ?_
    obtain ⟨n4, n5, h⟩ := z_gA_of h
    refine v_iald o n4 n5 dX11_saveCame_28 ?_
    obtain ⟨n6, n7, h⟩ := z_gA_of h
    refine v_iast o n6 n7 dX11_saveCame_29 ?_
    refine v_iinc o (a1 + (1 : Int32)) [(1, .int (a1 + (1 : Int32))), (0, .ref (z_w q a0))] dX11_saveCame_30 1 rfl rfl (by decide) rfl ?_
    refine v_goto o 10 dX11_saveCame_33 (by decide) ?_
    obtain rfl := z_some h
    refine v_sub [1, 0] rfl ?_
    exact hk
def f_X11_saveCame (G : z_G) (D : z_D) (a0 : Nat) : Option (z_D) :=
  ((z_loop (fun v => c_X11_saveCame_10 G v.1 a0 v.2) 4000 ((z_sI D 1156 a0 (z_I D 1126 a0)), (0 : Int32))).bind (fun e8 => (some e8)))
set_option maxRecDepth 100000 in
set_option maxHeartbeats 4000000 in
theorem b_X11_saveCame {q : z_Q} {X : z_X} {G : z_G} {D : z_D} {a0 : Nat}  {D1 : z_D} (o : z_O q X cX11_saveCame 2 "FlashTrustModel" "saveCame" none) (hX : x_R X = z_rm 0 0 0) (hK0 : z_K G a0 = 111) (h : f_X11_saveCame G D a0 = some D1) : z_V q X 2 (z_F q X none G D1 0 0) 0 0 G D 0 [(0, .ref (z_w q a0))] [] := by
  unfold f_X11_saveCame at h
  refine v_aload_n o dX11_saveCame_0 rfl 0 rfl ?_
  refine v_aload_n o dX11_saveCame_1 rfl 0 rfl ?_
  refine gt_11_26 o hK0 ln_5_121 dX11_saveCame_2 ?_
  refine pt_11_56 o hK0 ln_5_151 dX11_saveCame_5 ?_
  refine v_iconst o (0 : Int32) dX11_saveCame_8 (by decide) ?_
  refine v_istore_n o [(1, .int (0 : Int32)), (0, .ref (z_w q a0))] dX11_saveCame_9 rfl (by decide) rfl ?_
  refine v_sub [1, 0] rfl ?_
  obtain ⟨e8, he9, h⟩ := z_bind h
  refine z_loopV (P := p_X11_saveCame_10 q X _ G a0) (E := x_X11_saveCame_10 q X _ G a0) (fun v ρ hb hk => tc_X11_saveCame_10 (D := v.1) (a0 := a0) (a1 := v.2) o hX hK0 hb hk) 4000 _ e8 he9 ?_
  show z_V q X 2 _ _ _ G e8 36 [] []
  have hr := z_some h
  subst hr
  exact v_return o dX11_saveCame_36
theorem e_X11_saveCame {q : z_Q} {l : Launch} {G : z_G} {D : z_D} {a0 : Nat}  {D1 : z_D} (hK0 : z_K G a0 = 111) (h : f_X11_saveCame G D a0 = some D1) : z_E q l yX11_saveCame cX11_saveCame 2 none 0 0 0 [.ref (z_w q a0)] G D none G D1 :=
  z_E.of (by decide) (Nat.le_of_ble_eq_true rfl) (fun X hX _ o => b_X11_saveCame o hX hK0 h)
def p_X11_goToPieces_229 (q : z_Q) (X : z_X) (Q : State → Prop) (G : z_G) (a0 : Nat) : (z_D × Int32) → Prop := (fun v => z_V q X 4 Q 0 0 G v.1 229 [(0, .ref (z_w q a0)), (3, .int v.2)] [])
def x_X11_goToPieces_229 (q : z_Q) (X : z_X) (Q : State → Prop) (G : z_G) (a0 : Nat) : z_D → Prop := (fun v => z_V q X 4 Q 0 0 G v 260 [(0, .ref (z_w q a0))] [])
def k_X11_goToPieces_229 (q : z_Q) (X : z_X) (Q : State → Prop) (G : z_G) (a0 : Nat) : (z_D × Int32) ⊕ z_D → Prop := Sum.elim (p_X11_goToPieces_229 q X Q G a0) (x_X11_goToPieces_229 q X Q G a0)
def c_X11_goToPieces_229 (G : z_G) (D : z_D) (a0 : Nat) (a3 : Int32) : Option ((z_D × Int32) ⊕ z_D) :=
  (if (8 : Int32) ≤ a3 then (some (.inr D)) else ((f_X11_slotAt G D ((1 : Int32) - (z_I D 1116 a0))).bind (fun r25 => ((f_X11_erase G D a0 ((r25 / (128 : Int32)) + a3)).bind (fun D27 => ((some (.inl (D27, (a3 + (1 : Int32)))))))))))
set_option maxRecDepth 100000 in
set_option maxHeartbeats 4000000 in
theorem tc_X11_goToPieces_229 {q : z_Q} {X : z_X} {G : z_G} {D : z_D} {Q : State → Prop} {a0 : Nat} {a3 : Int32} (o : z_O q X cX11_goToPieces 4 "FlashTrustModel" "goToPieces" (some .int)) (hX : x_R X = z_rm 7 0 0) (hK0 : z_K G a0 = 111) {ρ : (z_D × Int32) ⊕ z_D} (h : c_X11_goToPieces_229 G D a0 a3 = some ρ) (hk : k_X11_goToPieces_229 q X Q G a0 ρ) : z_V q X 4 Q 0 0 G D 229 [(0, .ref (z_w q a0)), (3, .int a3)] [] := by
  unfold c_X11_goToPieces_229 at h
  refine v_iload_n o dX11_goToPieces_229 rfl 1 rfl ?_
  refine v_bipush o (8 : Int32) dX11_goToPieces_230 (by decide) ?_
  refine v_icmp_ge o 260 dX11_goToPieces_232 (by decide) (fun c23 => ?_) (fun c23 => ?_)
  · replace h := z_ip c23 h
    obtain rfl := z_some h
    refine v_sub [0] rfl ?_
    exact hk
  · replace h := z_in c23 h
    refine v_aload_n o dX11_goToPieces_235 rfl 0 rfl ?_
    refine v_iconst o (1 : Int32) dX11_goToPieces_236 (by decide) ?_
    refine v_aload_n o dX11_goToPieces_237 rfl 0 rfl ?_
    refine gt_11_16 o hK0 ln_5_111 dX11_goToPieces_238 ?_
    refine v_isub o dX11_goToPieces_241 ?_
    obtain ⟨r25, he24, h⟩ := z_bind h
    refine v_callS o yw_X11_slotAt ln_5_45 ws_X11_slotAt hX (by decide) (As := [.int ((1 : Int32) - (z_I D 1116 a0))]) rfl rfl (Nat.le_of_ble_eq_true rfl) (e_X11_slotAt he24) dX11_goToPieces_242 ?_
    refine v_sipush o (128 : Int32) dX11_goToPieces_245 (by decide) ?_
    refine v_idiv o dX11_goToPieces_248 (by decide) ?_
    refine v_iload_n o dX11_goToPieces_249 rfl 1 rfl ?_
    refine v_iadd o dX11_goToPieces_250 ?_
    obtain ⟨D27, he26, h⟩ := z_bind h
    refine v_callV o yw_X11_erase ln_6_137 wi_X11_erase ws_X11_erase hX (by decide) 11 rfl hK0 (As := [.int ((r25 / (128 : Int32)) + a3)]) rfl rfl (Nat.le_of_ble_eq_true rfl) (e_X11_erase hK0 he26) dX11_goToPieces_251 ?_
    refine v_iinc o (a3 + (1 : Int32)) [(3, .int (a3 + (1 : Int32))), (0, .ref (z_w q a0))] dX11_goToPieces_254 1 rfl rfl (by decide) rfl ?_
    refine v_goto o 229 dX11_goToPieces_257 (by decide) ?_
    obtain rfl := z_some h
    refine v_sub [1, 0] rfl ?_
    exact hk
def j_X11_goToPieces_296 (G : z_G) (D : z_D) (a0 : Nat)  : Option (Int32 × z_D) :=
  (if (z_I D 1103 a0) = (0 : Int32) then ((some ((5 : Int32), (z_sI (z_sI D 1151 a0 (0 : Int32)) 1148 a0 (5 : Int32))))) else ((some ((-3 : Int32), D))))
set_option maxRecDepth 100000 in
set_option maxHeartbeats 4000000 in
theorem tj_X11_goToPieces_296 {q : z_Q} {X : z_X} {G : z_G} {D : z_D} {a0 : Nat}  {r : Int32} {D1 : z_D} (o : z_O q X cX11_goToPieces 4 "FlashTrustModel" "goToPieces" (some .int)) (hX : x_R X = z_rm 7 0 0) (hK0 : z_K G a0 = 111) (h : j_X11_goToPieces_296 G D a0  = some (r, D1)) : z_V q X 4 (z_F q X (some (.int r)) G D1 0 0) 0 0 G D 296 [(0, .ref (z_w q a0))] [] := by
  unfold j_X11_goToPieces_296 at h
  refine v_aload_n o dX11_goToPieces_296 rfl 0 rfl ?_
  refine gt_11_3 o hK0 ln_5_98 dX11_goToPieces_297 ?_
  refine v_if_eq o 306 dX11_goToPieces_300 (by decide) (fun c31 => ?_) (fun c31 => ?_)
  · replace h := z_ip c31 h
    refine v_aload_n o dX11_goToPieces_306 rfl 0 rfl ?_
    refine v_iconst o (0 : Int32) dX11_goToPieces_307 (by decide) ?_
    refine pt_11_51 o hK0 ln_5_146 dX11_goToPieces_308 ?_
    refine v_aload_n o dX11_goToPieces_311 rfl 0 rfl ?_
    refine v_iconst o (5 : Int32) dX11_goToPieces_312 (by decide) ?_
    refine pt_11_48 o hK0 ln_5_143 dX11_goToPieces_313 ?_
    refine v_iconst o (5 : Int32) dX11_goToPieces_316 (by decide) ?_
    obtain ⟨hr, hs⟩ := Prod.mk.inj (z_some h)
    subst hr
    subst hs
    exact v_ireturn o dX11_goToPieces_317
  · replace h := z_in c31 h
    refine v_bipush o (-3 : Int32) dX11_goToPieces_303 (by decide) ?_
    obtain ⟨hr, hs⟩ := Prod.mk.inj (z_some h)
    subst hr
    subst hs
    exact v_ireturn o dX11_goToPieces_305
def j_X11_goToPieces_227 (G : z_G) (D : z_D) (a0 : Nat)  : Option (Int32 × z_D) :=
  ((z_loop (fun v => c_X11_goToPieces_229 G v.1 a0 v.2) 4000 (D, (0 : Int32))).bind (fun e28 => (if (z_I e28 1103 a0) = (0 : Int32) then ((f_X11_writeState G (z_sJ (z_sI (z_sI e28 1121 a0 (z_I e28 1152 a0)) 1122 a0 (z_I (z_sI e28 1121 a0 (z_I e28 1152 a0)) 1153 a0)) 1123 a0 (z_J (z_sI (z_sI e28 1121 a0 (z_I e28 1152 a0)) 1122 a0 (z_I (z_sI e28 1121 a0 (z_I e28 1152 a0)) 1153 a0)) 1154 a0)) a0 (1 : Int32)).bind (fun D33 => ((j_X11_goToPieces_296 G D33  a0)))) else (j_X11_goToPieces_296 G e28  a0))))
set_option maxRecDepth 100000 in
set_option maxHeartbeats 4000000 in
theorem tj_X11_goToPieces_227 {q : z_Q} {X : z_X} {G : z_G} {D : z_D} {a0 : Nat}  {r : Int32} {D1 : z_D} (o : z_O q X cX11_goToPieces 4 "FlashTrustModel" "goToPieces" (some .int)) (hX : x_R X = z_rm 7 0 0) (hK0 : z_K G a0 = 111) (h : j_X11_goToPieces_227 G D a0  = some (r, D1)) : z_V q X 4 (z_F q X (some (.int r)) G D1 0 0) 0 0 G D 227 [(0, .ref (z_w q a0))] [] := by
  unfold j_X11_goToPieces_227 at h
  refine v_iconst o (0 : Int32) dX11_goToPieces_227 (by decide) ?_
  refine v_istore_n o [(3, .int (0 : Int32)), (0, .ref (z_w q a0))] dX11_goToPieces_228 rfl (by decide) rfl ?_
  refine v_sub [1, 0] rfl ?_
  obtain ⟨e28, he29, h⟩ := z_bind h
  refine z_loopV (P := p_X11_goToPieces_229 q X _ G a0) (E := x_X11_goToPieces_229 q X _ G a0) (fun v ρ hb hk => tc_X11_goToPieces_229 (D := v.1) (a0 := a0) (a3 := v.2) o hX hK0 hb hk) 4000 _ e28 he29 ?_
  show z_V q X 4 _ _ _ G e28 260 [(0, .ref (z_w q a0))] []
  refine v_aload_n o dX11_goToPieces_260 rfl 0 rfl ?_
  refine gt_11_3 o hK0 ln_5_98 dX11_goToPieces_261 ?_
  refine v_if_ne o 296 dX11_goToPieces_264 (by decide) (fun c30 => ?_) (fun c30 => ?_)
  · replace h := z_in c30 h
    exact tj_X11_goToPieces_296 o hX hK0 h
  · replace h := z_ip c30 h
    refine v_aload_n o dX11_goToPieces_267 rfl 0 rfl ?_
    refine v_aload_n o dX11_goToPieces_268 rfl 0 rfl ?_
    refine gt_11_52 o hK0 ln_5_147 dX11_goToPieces_269 ?_
    refine pt_11_21 o hK0 ln_5_116 dX11_goToPieces_272 ?_
    refine v_aload_n o dX11_goToPieces_275 rfl 0 rfl ?_
    refine v_aload_n o dX11_goToPieces_276 rfl 0 rfl ?_
    refine gt_11_53 o hK0 ln_5_148 dX11_goToPieces_277 ?_
    refine pt_11_22 o hK0 ln_5_117 dX11_goToPieces_280 ?_
    refine v_aload_n o dX11_goToPieces_283 rfl 0 rfl ?_
    refine v_aload_n o dX11_goToPieces_284 rfl 0 rfl ?_
    refine gt_11_54 o hK0 ln_5_149 dX11_goToPieces_285 ?_
    refine pt_11_23 o hK0 ln_5_118 dX11_goToPieces_288 ?_
    refine v_aload_n o dX11_goToPieces_291 rfl 0 rfl ?_
    refine v_iconst o (1 : Int32) dX11_goToPieces_292 (by decide) ?_
    obtain ⟨D33, he32, h⟩ := z_bind h
    refine v_callV o yw_X11_writeState ln_6_129 wi_X11_writeState ws_X11_writeState hX (by decide) 11 rfl hK0 (As := [.int (1 : Int32)]) rfl rfl (Nat.le_of_ble_eq_true rfl) (e_X11_writeState hK0 he32) dX11_goToPieces_293 ?_
    exact tj_X11_goToPieces_296 o hX hK0 h
def p_X11_goToPieces_169 (q : z_Q) (X : z_X) (Q : State → Prop) (G : z_G) (a0 : Nat) : (z_D × Int32) → Prop := (fun v => z_V q X 4 Q 0 0 G v.1 169 [(0, .ref (z_w q a0)), (3, .int v.2)] [])
def x_X11_goToPieces_169 (q : z_Q) (X : z_X) (Q : State → Prop) (G : z_G) (a0 : Nat) : z_D → Prop := (fun v => z_V q X 4 Q 0 0 G v 220 [(0, .ref (z_w q a0))] [])
def k_X11_goToPieces_169 (q : z_Q) (X : z_X) (Q : State → Prop) (G : z_G) (a0 : Nat) : (z_D × Int32) ⊕ z_D → Prop := Sum.elim (p_X11_goToPieces_169 q X Q G a0) (x_X11_goToPieces_169 q X Q G a0)
def c_X11_goToPieces_169 (G : z_G) (D : z_D) (a0 : Nat) (a3 : Int32) : Option ((z_D × Int32) ⊕ z_D) :=
  (if (z_I D 1153 a0) ≤ a3 then (some (.inr D)) else (z_gK G 1 (z_R G 1100 a0) ((f_X11_slotAt G D ((1 : Int32) - (z_I D 1116 a0))).bind (fun r38 => (z_gA G 1 (z_R G 1100 a0) (r38 + a3) ((if (z_U D (z_R G 1100 a0) ((r38 + a3)).toNatClampNeg) = (255 : Int32) then ((some (.inl ((z_sI D 1151 a0 (z_I D 1151 a0)), (a3 + (1 : Int32)))))) else (((some (.inl ((z_sI D 1151 a0 (a3 / (64 : Int32))), (a3 + (1 : Int32))))))))))))))
set_option maxRecDepth 100000 in
set_option maxHeartbeats 4000000 in
theorem tc_X11_goToPieces_169 {q : z_Q} {X : z_X} {G : z_G} {D : z_D} {Q : State → Prop} {a0 : Nat} {a3 : Int32} (o : z_O q X cX11_goToPieces 4 "FlashTrustModel" "goToPieces" (some .int)) (hX : x_R X = z_rm 7 0 0) (hK0 : z_K G a0 = 111) {ρ : (z_D × Int32) ⊕ z_D} (h : c_X11_goToPieces_169 G D a0 a3 = some ρ) (hk : k_X11_goToPieces_169 q X Q G a0 ρ) : z_V q X 4 Q 0 0 G D 169 [(0, .ref (z_w q a0)), (3, .int a3)] [] := by
  unfold c_X11_goToPieces_169 at h
  refine v_iload_n o dX11_goToPieces_169 rfl 1 rfl ?_
  refine v_aload_n o dX11_goToPieces_170 rfl 0 rfl ?_
  refine gt_11_53 o hK0 ln_5_148 dX11_goToPieces_171 ?_
  refine v_icmp_ge o 220 dX11_goToPieces_174 (by decide) (fun c35 => ?_) (fun c35 => ?_)
  · replace h := z_ip c35 h
    obtain rfl := z_some h
    refine v_sub [0] rfl ?_
    exact hk
  · replace h := z_in c35 h
    refine v_aload_n o dX11_goToPieces_177 rfl 0 rfl ?_
    refine v_aload_n o dX11_goToPieces_178 rfl 0 rfl ?_
    obtain ⟨n36, h⟩ := z_gK_of h
    refine gt_11_0 o hK0 ln_5_95 (by rw [n36]; decide) dX11_goToPieces_179 ?_
    refine v_iconst o (1 : Int32) dX11_goToPieces_182 (by decide) ?_
    refine v_aload_n o dX11_goToPieces_183 rfl 0 rfl ?_
    refine gt_11_16 o hK0 ln_5_111 dX11_goToPieces_184 ?_
    refine v_isub o dX11_goToPieces_187 ?_
    obtain ⟨r38, he37, h⟩ := z_bind h
    refine v_callS o yw_X11_slotAt ln_5_45 ws_X11_slotAt hX (by decide) (As := [.int ((1 : Int32) - (z_I D 1116 a0))]) rfl rfl (Nat.le_of_ble_eq_true rfl) (e_X11_slotAt he37) dX11_goToPieces_188 ?_
    refine v_iload_n o dX11_goToPieces_191 rfl 1 rfl ?_
    refine v_iadd o dX11_goToPieces_192 ?_
    obtain ⟨n39, n40, h⟩ := z_gA_of h
    refine v_iald o n39 n40 dX11_goToPieces_193 ?_
    refine v_sipush o (255 : Int32) dX11_goToPieces_194 (by decide) ?_
    refine v_icmp_eq o 207 dX11_goToPieces_197 (by decide) (fun c41 => ?_) (fun c41 => ?_)
    · replace h := z_ip c41 h
      refine v_aload_n o dX11_goToPieces_207 rfl 0 rfl ?_
      refine gt_11_51 o hK0 ln_5_146 dX11_goToPieces_208 ?_
      refine pt_11_51 o hK0 ln_5_146 dX11_goToPieces_211 ?_
      refine v_iinc o (a3 + (1 : Int32)) [(3, .int (a3 + (1 : Int32))), (0, .ref (z_w q a0))] dX11_goToPieces_214 1 rfl rfl (by decide) rfl ?_
      refine v_goto o 169 dX11_goToPieces_217 (by decide) ?_
      obtain rfl := z_some h
      refine v_sub [1, 0] rfl ?_
      exact hk
    · replace h := z_in c41 h
      refine v_iload_n o dX11_goToPieces_200 rfl 1 rfl ?_
      refine v_bipush o (64 : Int32) dX11_goToPieces_201 (by decide) ?_
      refine v_idiv o dX11_goToPieces_203 (by decide) ?_
      refine v_goto o 211 dX11_goToPieces_204 (by decide) ?_
      refine pt_11_51 o hK0 ln_5_146 dX11_goToPieces_211 ?_
      refine v_iinc o (a3 + (1 : Int32)) [(3, .int (a3 + (1 : Int32))), (0, .ref (z_w q a0))] dX11_goToPieces_214 1 rfl rfl (by decide) rfl ?_
      refine v_goto o 169 dX11_goToPieces_217 (by decide) ?_
      obtain rfl := z_some h
      refine v_sub [1, 0] rfl ?_
      exact hk
def j_X11_goToPieces_150 (G : z_G) (D : z_D) (a0 : Nat) (a2 : Int32)  : Option (Int32 × z_D) :=
  (if a2 = (0 : Int32) then (j_X11_goToPieces_227 G D  a0) else ((if (z_I D 1120 a0) = (1 : Int32) then (((z_loop (fun v => c_X11_goToPieces_169 G v.1 a0 v.2) 4000 ((z_sI D 1151 a0 (0 : Int32)), (0 : Int32))).bind (fun e42 => (some ((5 : Int32), (z_sI e42 1148 a0 (5 : Int32))))))) else (j_X11_goToPieces_227 G D  a0))))
set_option maxRecDepth 100000 in
set_option maxHeartbeats 4000000 in
theorem tj_X11_goToPieces_150 {q : z_Q} {X : z_X} {G : z_G} {D : z_D} {a0 : Nat} {a2 : Int32}  {r : Int32} {D1 : z_D} (o : z_O q X cX11_goToPieces 4 "FlashTrustModel" "goToPieces" (some .int)) (hX : x_R X = z_rm 7 0 0) (hK0 : z_K G a0 = 111) (h : j_X11_goToPieces_150 G D a0 a2  = some (r, D1)) : z_V q X 4 (z_F q X (some (.int r)) G D1 0 0) 0 0 G D 150 [(0, .ref (z_w q a0)), (2, .int a2)] [] := by
  unfold j_X11_goToPieces_150 at h
  refine v_iload_n o dX11_goToPieces_150 rfl 1 rfl ?_
  refine v_if_eq o 227 dX11_goToPieces_151 (by decide) (fun c22 => ?_) (fun c22 => ?_)
  · replace h := z_ip c22 h
    refine v_sub [0] rfl ?_
    exact tj_X11_goToPieces_227 o hX hK0 h
  · replace h := z_in c22 h
    refine v_aload_n o dX11_goToPieces_154 rfl 0 rfl ?_
    refine gt_11_20 o hK0 ln_5_115 dX11_goToPieces_155 ?_
    refine v_iconst o (1 : Int32) dX11_goToPieces_158 (by decide) ?_
    refine v_icmp_ne o 227 dX11_goToPieces_159 (by decide) (fun c34 => ?_) (fun c34 => ?_)
    · replace h := z_in c34 h
      refine v_sub [0] rfl ?_
      exact tj_X11_goToPieces_227 o hX hK0 h
    · replace h := z_ip c34 h
      refine v_aload_n o dX11_goToPieces_162 rfl 0 rfl ?_
      refine v_iconst o (0 : Int32) dX11_goToPieces_163 (by decide) ?_
      refine pt_11_51 o hK0 ln_5_146 dX11_goToPieces_164 ?_
      refine v_iconst o (0 : Int32) dX11_goToPieces_167 (by decide) ?_
      refine v_istore_n o [(3, .int (0 : Int32)), (0, .ref (z_w q a0)), (2, .int a2)] dX11_goToPieces_168 rfl (by decide) rfl ?_
      refine v_sub [1, 0] rfl ?_
      obtain ⟨e42, he43, h⟩ := z_bind h
      refine z_loopV (P := p_X11_goToPieces_169 q X _ G a0) (E := x_X11_goToPieces_169 q X _ G a0) (fun v ρ hb hk => tc_X11_goToPieces_169 (D := v.1) (a0 := a0) (a3 := v.2) o hX hK0 hb hk) 4000 _ e42 he43 ?_
      show z_V q X 4 _ _ _ G e42 220 [(0, .ref (z_w q a0))] []
      refine v_aload_n o dX11_goToPieces_220 rfl 0 rfl ?_
      refine v_iconst o (5 : Int32) dX11_goToPieces_221 (by decide) ?_
      refine pt_11_48 o hK0 ln_5_143 dX11_goToPieces_222 ?_
      refine v_iconst o (5 : Int32) dX11_goToPieces_225 (by decide) ?_
      obtain ⟨hr, hs⟩ := Prod.mk.inj (z_some h)
      subst hr
      subst hs
      exact v_ireturn o dX11_goToPieces_226
def j_X11_goToPieces_130 (G : z_G) (D : z_D) (a0 : Nat) (s0 : Int32) : Option (Int32 × z_D) :=
  (if s0 = (0 : Int32) then (j_X11_goToPieces_150 G D  a0 s0) else ((if (z_I D 1120 a0) = (2 : Int32) then ((some ((0 : Int32), (z_sI D 1148 a0 (0 : Int32))))) else (j_X11_goToPieces_150 G D  a0 s0))))
set_option maxRecDepth 100000 in
set_option maxHeartbeats 4000000 in
theorem tj_X11_goToPieces_130 {q : z_Q} {X : z_X} {G : z_G} {D : z_D} {a0 : Nat} {s0 : Int32} {r : Int32} {D1 : z_D} (o : z_O q X cX11_goToPieces 4 "FlashTrustModel" "goToPieces" (some .int)) (hX : x_R X = z_rm 7 0 0) (hK0 : z_K G a0 = 111) (h : j_X11_goToPieces_130 G D a0 s0 = some (r, D1)) : z_V q X 4 (z_F q X (some (.int r)) G D1 0 0) 0 0 G D 130 [(0, .ref (z_w q a0))] [.int s0] := by
  unfold j_X11_goToPieces_130 at h
  refine v_istore_n o [(2, .int s0), (0, .ref (z_w q a0))] dX11_goToPieces_130 rfl (by decide) rfl ?_
  refine v_iload_n o dX11_goToPieces_131 rfl 0 rfl ?_
  refine v_if_eq o 150 dX11_goToPieces_132 (by decide) (fun c21 => ?_) (fun c21 => ?_)
  · replace h := z_ip c21 h
    refine v_sub [1, 0] rfl ?_
    exact tj_X11_goToPieces_150 o hX hK0 h
  · replace h := z_in c21 h
    refine v_aload_n o dX11_goToPieces_135 rfl 1 rfl ?_
    refine gt_11_20 o hK0 ln_5_115 dX11_goToPieces_136 ?_
    refine v_iconst o (2 : Int32) dX11_goToPieces_139 (by decide) ?_
    refine v_icmp_ne o 150 dX11_goToPieces_140 (by decide) (fun c44 => ?_) (fun c44 => ?_)
    · replace h := z_in c44 h
      refine v_sub [1, 0] rfl ?_
      exact tj_X11_goToPieces_150 o hX hK0 h
    · replace h := z_ip c44 h
      refine v_aload_n o dX11_goToPieces_143 rfl 1 rfl ?_
      refine v_iconst o (0 : Int32) dX11_goToPieces_144 (by decide) ?_
      refine pt_11_48 o hK0 ln_5_143 dX11_goToPieces_145 ?_
      refine v_iconst o (0 : Int32) dX11_goToPieces_148 (by decide) ?_
      obtain ⟨hr, hs⟩ := Prod.mk.inj (z_some h)
      subst hr
      subst hs
      exact v_ireturn o dX11_goToPieces_149
def j_X11_goToPieces_129 (G : z_G) (D : z_D) (a0 : Nat)  : Option (Int32 × z_D) :=
  (j_X11_goToPieces_130 G D  a0 (0 : Int32))
set_option maxRecDepth 100000 in
set_option maxHeartbeats 4000000 in
theorem tj_X11_goToPieces_129 {q : z_Q} {X : z_X} {G : z_G} {D : z_D} {a0 : Nat}  {r : Int32} {D1 : z_D} (o : z_O q X cX11_goToPieces 4 "FlashTrustModel" "goToPieces" (some .int)) (hX : x_R X = z_rm 7 0 0) (hK0 : z_K G a0 = 111) (h : j_X11_goToPieces_129 G D a0  = some (r, D1)) : z_V q X 4 (z_F q X (some (.int r)) G D1 0 0) 0 0 G D 129 [(0, .ref (z_w q a0))] [] := by
  unfold j_X11_goToPieces_129 at h
  refine v_iconst o (0 : Int32) dX11_goToPieces_129 (by decide) ?_
  exact tj_X11_goToPieces_130 o hX hK0 h
def f_X11_goToPieces (G : z_G) (D : z_D) (a0 : Nat) : Option (Int32 × z_D) :=
  (f_X11_takeTrusted G D a0 (3 : Int32)).bind (fun p2 => ((f_X11_layState G p2.2 a0).bind (fun D4 => ((if (z_I D4 1137 a0) = (0 : Int32) then ((f_X11_fail G D4 a0 (9 : Int32)).bind (fun p7 => ((some (p7.1, p7.2))))) else (z_gK G 1 (z_R G 1138 a0) (z_gA G 1 (z_R G 1138 a0) ((z_I D4 1137 a0) - (1 : Int32)) ((if (z_I D4 1117 a0) < (z_U D4 (z_R G 1138 a0) (((z_I D4 1137 a0) - (1 : Int32))).toNatClampNeg) then (z_gA G 1 (z_R G 1138 a0) ((z_I D4 1137 a0) - (1 : Int32)) (z_gK G 1 (z_R G 1139 a0) (z_gA G 1 (z_R G 1139 a0) ((z_I (z_sI D4 1152 a0 (z_U D4 (z_R G 1138 a0) (((z_I D4 1137 a0) - (1 : Int32))).toNatClampNeg)) 1137 a0) - (1 : Int32)) (z_gK G 2 (z_R G 1140 a0) (z_gA G 2 (z_R G 1140 a0) ((z_I (z_sI (z_sI D4 1152 a0 (z_U D4 (z_R G 1138 a0) (((z_I D4 1137 a0) - (1 : Int32))).toNatClampNeg)) 1153 a0 (z_U (z_sI D4 1152 a0 (z_U D4 (z_R G 1138 a0) (((z_I D4 1137 a0) - (1 : Int32))).toNatClampNeg)) (z_R G 1139 a0) (((z_I (z_sI D4 1152 a0 (z_U D4 (z_R G 1138 a0) (((z_I D4 1137 a0) - (1 : Int32))).toNatClampNeg)) 1137 a0) - (1 : Int32))).toNatClampNeg)) 1137 a0) - (1 : Int32)) ((if (z_I (z_sJ (z_sI (z_sI D4 1152 a0 (z_U D4 (z_R G 1138 a0) (((z_I D4 1137 a0) - (1 : Int32))).toNatClampNeg)) 1153 a0 (z_U (z_sI D4 1152 a0 (z_U D4 (z_R G 1138 a0) (((z_I D4 1137 a0) - (1 : Int32))).toNatClampNeg)) (z_R G 1139 a0) (((z_I (z_sI D4 1152 a0 (z_U D4 (z_R G 1138 a0) (((z_I D4 1137 a0) - (1 : Int32))).toNatClampNeg)) 1137 a0) - (1 : Int32))).toNatClampNeg)) 1154 a0 ((z_Y (z_sI (z_sI D4 1152 a0 (z_U D4 (z_R G 1138 a0) (((z_I D4 1137 a0) - (1 : Int32))).toNatClampNeg)) 1153 a0 (z_U (z_sI D4 1152 a0 (z_U D4 (z_R G 1138 a0) (((z_I D4 1137 a0) - (1 : Int32))).toNatClampNeg)) (z_R G 1139 a0) (((z_I (z_sI D4 1152 a0 (z_U D4 (z_R G 1138 a0) (((z_I D4 1137 a0) - (1 : Int32))).toNatClampNeg)) 1137 a0) - (1 : Int32))).toNatClampNeg)) (z_R G 1140 a0) (((z_I (z_sI (z_sI D4 1152 a0 (z_U D4 (z_R G 1138 a0) (((z_I D4 1137 a0) - (1 : Int32))).toNatClampNeg)) 1153 a0 (z_U (z_sI D4 1152 a0 (z_U D4 (z_R G 1138 a0) (((z_I D4 1137 a0) - (1 : Int32))).toNatClampNeg)) (z_R G 1139 a0) (((z_I (z_sI D4 1152 a0 (z_U D4 (z_R G 1138 a0) (((z_I D4 1137 a0) - (1 : Int32))).toNatClampNeg)) 1137 a0) - (1 : Int32))).toNatClampNeg)) 1137 a0) - (1 : Int32))).toNatClampNeg) &&& (281474976710655 : Int64))) 1121 a0) = (z_I (z_sJ (z_sI (z_sI D4 1152 a0 (z_U D4 (z_R G 1138 a0) (((z_I D4 1137 a0) - (1 : Int32))).toNatClampNeg)) 1153 a0 (z_U (z_sI D4 1152 a0 (z_U D4 (z_R G 1138 a0) (((z_I D4 1137 a0) - (1 : Int32))).toNatClampNeg)) (z_R G 1139 a0) (((z_I (z_sI D4 1152 a0 (z_U D4 (z_R G 1138 a0) (((z_I D4 1137 a0) - (1 : Int32))).toNatClampNeg)) 1137 a0) - (1 : Int32))).toNatClampNeg)) 1154 a0 ((z_Y (z_sI (z_sI D4 1152 a0 (z_U D4 (z_R G 1138 a0) (((z_I D4 1137 a0) - (1 : Int32))).toNatClampNeg)) 1153 a0 (z_U (z_sI D4 1152 a0 (z_U D4 (z_R G 1138 a0) (((z_I D4 1137 a0) - (1 : Int32))).toNatClampNeg)) (z_R G 1139 a0) (((z_I (z_sI D4 1152 a0 (z_U D4 (z_R G 1138 a0) (((z_I D4 1137 a0) - (1 : Int32))).toNatClampNeg)) 1137 a0) - (1 : Int32))).toNatClampNeg)) (z_R G 1140 a0) (((z_I (z_sI (z_sI D4 1152 a0 (z_U D4 (z_R G 1138 a0) (((z_I D4 1137 a0) - (1 : Int32))).toNatClampNeg)) 1153 a0 (z_U (z_sI D4 1152 a0 (z_U D4 (z_R G 1138 a0) (((z_I D4 1137 a0) - (1 : Int32))).toNatClampNeg)) (z_R G 1139 a0) (((z_I (z_sI D4 1152 a0 (z_U D4 (z_R G 1138 a0) (((z_I D4 1137 a0) - (1 : Int32))).toNatClampNeg)) 1137 a0) - (1 : Int32))).toNatClampNeg)) 1137 a0) - (1 : Int32))).toNatClampNeg) &&& (281474976710655 : Int64))) 1152 a0) then ((if (z_I (z_sJ (z_sI (z_sI D4 1152 a0 (z_U D4 (z_R G 1138 a0) (((z_I D4 1137 a0) - (1 : Int32))).toNatClampNeg)) 1153 a0 (z_U (z_sI D4 1152 a0 (z_U D4 (z_R G 1138 a0) (((z_I D4 1137 a0) - (1 : Int32))).toNatClampNeg)) (z_R G 1139 a0) (((z_I (z_sI D4 1152 a0 (z_U D4 (z_R G 1138 a0) (((z_I D4 1137 a0) - (1 : Int32))).toNatClampNeg)) 1137 a0) - (1 : Int32))).toNatClampNeg)) 1154 a0 ((z_Y (z_sI (z_sI D4 1152 a0 (z_U D4 (z_R G 1138 a0) (((z_I D4 1137 a0) - (1 : Int32))).toNatClampNeg)) 1153 a0 (z_U (z_sI D4 1152 a0 (z_U D4 (z_R G 1138 a0) (((z_I D4 1137 a0) - (1 : Int32))).toNatClampNeg)) (z_R G 1139 a0) (((z_I (z_sI D4 1152 a0 (z_U D4 (z_R G 1138 a0) (((z_I D4 1137 a0) - (1 : Int32))).toNatClampNeg)) 1137 a0) - (1 : Int32))).toNatClampNeg)) (z_R G 1140 a0) (((z_I (z_sI (z_sI D4 1152 a0 (z_U D4 (z_R G 1138 a0) (((z_I D4 1137 a0) - (1 : Int32))).toNatClampNeg)) 1153 a0 (z_U (z_sI D4 1152 a0 (z_U D4 (z_R G 1138 a0) (((z_I D4 1137 a0) - (1 : Int32))).toNatClampNeg)) (z_R G 1139 a0) (((z_I (z_sI D4 1152 a0 (z_U D4 (z_R G 1138 a0) (((z_I D4 1137 a0) - (1 : Int32))).toNatClampNeg)) 1137 a0) - (1 : Int32))).toNatClampNeg)) 1137 a0) - (1 : Int32))).toNatClampNeg) &&& (281474976710655 : Int64))) 1122 a0) = (z_I (z_sJ (z_sI (z_sI D4 1152 a0 (z_U D4 (z_R G 1138 a0) (((z_I D4 1137 a0) - (1 : Int32))).toNatClampNeg)) 1153 a0 (z_U (z_sI D4 1152 a0 (z_U D4 (z_R G 1138 a0) (((z_I D4 1137 a0) - (1 : Int32))).toNatClampNeg)) (z_R G 1139 a0) (((z_I (z_sI D4 1152 a0 (z_U D4 (z_R G 1138 a0) (((z_I D4 1137 a0) - (1 : Int32))).toNatClampNeg)) 1137 a0) - (1 : Int32))).toNatClampNeg)) 1154 a0 ((z_Y (z_sI (z_sI D4 1152 a0 (z_U D4 (z_R G 1138 a0) (((z_I D4 1137 a0) - (1 : Int32))).toNatClampNeg)) 1153 a0 (z_U (z_sI D4 1152 a0 (z_U D4 (z_R G 1138 a0) (((z_I D4 1137 a0) - (1 : Int32))).toNatClampNeg)) (z_R G 1139 a0) (((z_I (z_sI D4 1152 a0 (z_U D4 (z_R G 1138 a0) (((z_I D4 1137 a0) - (1 : Int32))).toNatClampNeg)) 1137 a0) - (1 : Int32))).toNatClampNeg)) (z_R G 1140 a0) (((z_I (z_sI (z_sI D4 1152 a0 (z_U D4 (z_R G 1138 a0) (((z_I D4 1137 a0) - (1 : Int32))).toNatClampNeg)) 1153 a0 (z_U (z_sI D4 1152 a0 (z_U D4 (z_R G 1138 a0) (((z_I D4 1137 a0) - (1 : Int32))).toNatClampNeg)) (z_R G 1139 a0) (((z_I (z_sI D4 1152 a0 (z_U D4 (z_R G 1138 a0) (((z_I D4 1137 a0) - (1 : Int32))).toNatClampNeg)) 1137 a0) - (1 : Int32))).toNatClampNeg)) 1137 a0) - (1 : Int32))).toNatClampNeg) &&& (281474976710655 : Int64))) 1153 a0) then ((if (lg_cmp (z_J (z_sJ (z_sI (z_sI D4 1152 a0 (z_U D4 (z_R G 1138 a0) (((z_I D4 1137 a0) - (1 : Int32))).toNatClampNeg)) 1153 a0 (z_U (z_sI D4 1152 a0 (z_U D4 (z_R G 1138 a0) (((z_I D4 1137 a0) - (1 : Int32))).toNatClampNeg)) (z_R G 1139 a0) (((z_I (z_sI D4 1152 a0 (z_U D4 (z_R G 1138 a0) (((z_I D4 1137 a0) - (1 : Int32))).toNatClampNeg)) 1137 a0) - (1 : Int32))).toNatClampNeg)) 1154 a0 ((z_Y (z_sI (z_sI D4 1152 a0 (z_U D4 (z_R G 1138 a0) (((z_I D4 1137 a0) - (1 : Int32))).toNatClampNeg)) 1153 a0 (z_U (z_sI D4 1152 a0 (z_U D4 (z_R G 1138 a0) (((z_I D4 1137 a0) - (1 : Int32))).toNatClampNeg)) (z_R G 1139 a0) (((z_I (z_sI D4 1152 a0 (z_U D4 (z_R G 1138 a0) (((z_I D4 1137 a0) - (1 : Int32))).toNatClampNeg)) 1137 a0) - (1 : Int32))).toNatClampNeg)) (z_R G 1140 a0) (((z_I (z_sI (z_sI D4 1152 a0 (z_U D4 (z_R G 1138 a0) (((z_I D4 1137 a0) - (1 : Int32))).toNatClampNeg)) 1153 a0 (z_U (z_sI D4 1152 a0 (z_U D4 (z_R G 1138 a0) (((z_I D4 1137 a0) - (1 : Int32))).toNatClampNeg)) (z_R G 1139 a0) (((z_I (z_sI D4 1152 a0 (z_U D4 (z_R G 1138 a0) (((z_I D4 1137 a0) - (1 : Int32))).toNatClampNeg)) 1137 a0) - (1 : Int32))).toNatClampNeg)) 1137 a0) - (1 : Int32))).toNatClampNeg) &&& (281474976710655 : Int64))) 1123 a0) (z_J (z_sJ (z_sI (z_sI D4 1152 a0 (z_U D4 (z_R G 1138 a0) (((z_I D4 1137 a0) - (1 : Int32))).toNatClampNeg)) 1153 a0 (z_U (z_sI D4 1152 a0 (z_U D4 (z_R G 1138 a0) (((z_I D4 1137 a0) - (1 : Int32))).toNatClampNeg)) (z_R G 1139 a0) (((z_I (z_sI D4 1152 a0 (z_U D4 (z_R G 1138 a0) (((z_I D4 1137 a0) - (1 : Int32))).toNatClampNeg)) 1137 a0) - (1 : Int32))).toNatClampNeg)) 1154 a0 ((z_Y (z_sI (z_sI D4 1152 a0 (z_U D4 (z_R G 1138 a0) (((z_I D4 1137 a0) - (1 : Int32))).toNatClampNeg)) 1153 a0 (z_U (z_sI D4 1152 a0 (z_U D4 (z_R G 1138 a0) (((z_I D4 1137 a0) - (1 : Int32))).toNatClampNeg)) (z_R G 1139 a0) (((z_I (z_sI D4 1152 a0 (z_U D4 (z_R G 1138 a0) (((z_I D4 1137 a0) - (1 : Int32))).toNatClampNeg)) 1137 a0) - (1 : Int32))).toNatClampNeg)) (z_R G 1140 a0) (((z_I (z_sI (z_sI D4 1152 a0 (z_U D4 (z_R G 1138 a0) (((z_I D4 1137 a0) - (1 : Int32))).toNatClampNeg)) 1153 a0 (z_U (z_sI D4 1152 a0 (z_U D4 (z_R G 1138 a0) (((z_I D4 1137 a0) - (1 : Int32))).toNatClampNeg)) (z_R G 1139 a0) (((z_I (z_sI D4 1152 a0 (z_U D4 (z_R G 1138 a0) (((z_I D4 1137 a0) - (1 : Int32))).toNatClampNeg)) 1137 a0) - (1 : Int32))).toNatClampNeg)) 1137 a0) - (1 : Int32))).toNatClampNeg) &&& (281474976710655 : Int64))) 1154 a0)) = (0 : Int32) then ((j_X11_goToPieces_130 G (z_sJ (z_sI (z_sI D4 1152 a0 (z_U D4 (z_R G 1138 a0) (((z_I D4 1137 a0) - (1 : Int32))).toNatClampNeg)) 1153 a0 (z_U (z_sI D4 1152 a0 (z_U D4 (z_R G 1138 a0) (((z_I D4 1137 a0) - (1 : Int32))).toNatClampNeg)) (z_R G 1139 a0) (((z_I (z_sI D4 1152 a0 (z_U D4 (z_R G 1138 a0) (((z_I D4 1137 a0) - (1 : Int32))).toNatClampNeg)) 1137 a0) - (1 : Int32))).toNatClampNeg)) 1154 a0 ((z_Y (z_sI (z_sI D4 1152 a0 (z_U D4 (z_R G 1138 a0) (((z_I D4 1137 a0) - (1 : Int32))).toNatClampNeg)) 1153 a0 (z_U (z_sI D4 1152 a0 (z_U D4 (z_R G 1138 a0) (((z_I D4 1137 a0) - (1 : Int32))).toNatClampNeg)) (z_R G 1139 a0) (((z_I (z_sI D4 1152 a0 (z_U D4 (z_R G 1138 a0) (((z_I D4 1137 a0) - (1 : Int32))).toNatClampNeg)) 1137 a0) - (1 : Int32))).toNatClampNeg)) (z_R G 1140 a0) (((z_I (z_sI (z_sI D4 1152 a0 (z_U D4 (z_R G 1138 a0) (((z_I D4 1137 a0) - (1 : Int32))).toNatClampNeg)) 1153 a0 (z_U (z_sI D4 1152 a0 (z_U D4 (z_R G 1138 a0) (((z_I D4 1137 a0) - (1 : Int32))).toNatClampNeg)) (z_R G 1139 a0) (((z_I (z_sI D4 1152 a0 (z_U D4 (z_R G 1138 a0) (((z_I D4 1137 a0) - (1 : Int32))).toNatClampNeg)) 1137 a0) - (1 : Int32))).toNatClampNeg)) 1137 a0) - (1 : Int32))).toNatClampNeg) &&& (281474976710655 : Int64)))  a0 (1 : Int32))) else (j_X11_goToPieces_129 G (z_sJ (z_sI (z_sI D4 1152 a0 (z_U D4 (z_R G 1138 a0) (((z_I D4 1137 a0) - (1 : Int32))).toNatClampNeg)) 1153 a0 (z_U (z_sI D4 1152 a0 (z_U D4 (z_R G 1138 a0) (((z_I D4 1137 a0) - (1 : Int32))).toNatClampNeg)) (z_R G 1139 a0) (((z_I (z_sI D4 1152 a0 (z_U D4 (z_R G 1138 a0) (((z_I D4 1137 a0) - (1 : Int32))).toNatClampNeg)) 1137 a0) - (1 : Int32))).toNatClampNeg)) 1154 a0 ((z_Y (z_sI (z_sI D4 1152 a0 (z_U D4 (z_R G 1138 a0) (((z_I D4 1137 a0) - (1 : Int32))).toNatClampNeg)) 1153 a0 (z_U (z_sI D4 1152 a0 (z_U D4 (z_R G 1138 a0) (((z_I D4 1137 a0) - (1 : Int32))).toNatClampNeg)) (z_R G 1139 a0) (((z_I (z_sI D4 1152 a0 (z_U D4 (z_R G 1138 a0) (((z_I D4 1137 a0) - (1 : Int32))).toNatClampNeg)) 1137 a0) - (1 : Int32))).toNatClampNeg)) (z_R G 1140 a0) (((z_I (z_sI (z_sI D4 1152 a0 (z_U D4 (z_R G 1138 a0) (((z_I D4 1137 a0) - (1 : Int32))).toNatClampNeg)) 1153 a0 (z_U (z_sI D4 1152 a0 (z_U D4 (z_R G 1138 a0) (((z_I D4 1137 a0) - (1 : Int32))).toNatClampNeg)) (z_R G 1139 a0) (((z_I (z_sI D4 1152 a0 (z_U D4 (z_R G 1138 a0) (((z_I D4 1137 a0) - (1 : Int32))).toNatClampNeg)) 1137 a0) - (1 : Int32))).toNatClampNeg)) 1137 a0) - (1 : Int32))).toNatClampNeg) &&& (281474976710655 : Int64)))  a0))) else (j_X11_goToPieces_129 G (z_sJ (z_sI (z_sI D4 1152 a0 (z_U D4 (z_R G 1138 a0) (((z_I D4 1137 a0) - (1 : Int32))).toNatClampNeg)) 1153 a0 (z_U (z_sI D4 1152 a0 (z_U D4 (z_R G 1138 a0) (((z_I D4 1137 a0) - (1 : Int32))).toNatClampNeg)) (z_R G 1139 a0) (((z_I (z_sI D4 1152 a0 (z_U D4 (z_R G 1138 a0) (((z_I D4 1137 a0) - (1 : Int32))).toNatClampNeg)) 1137 a0) - (1 : Int32))).toNatClampNeg)) 1154 a0 ((z_Y (z_sI (z_sI D4 1152 a0 (z_U D4 (z_R G 1138 a0) (((z_I D4 1137 a0) - (1 : Int32))).toNatClampNeg)) 1153 a0 (z_U (z_sI D4 1152 a0 (z_U D4 (z_R G 1138 a0) (((z_I D4 1137 a0) - (1 : Int32))).toNatClampNeg)) (z_R G 1139 a0) (((z_I (z_sI D4 1152 a0 (z_U D4 (z_R G 1138 a0) (((z_I D4 1137 a0) - (1 : Int32))).toNatClampNeg)) 1137 a0) - (1 : Int32))).toNatClampNeg)) (z_R G 1140 a0) (((z_I (z_sI (z_sI D4 1152 a0 (z_U D4 (z_R G 1138 a0) (((z_I D4 1137 a0) - (1 : Int32))).toNatClampNeg)) 1153 a0 (z_U (z_sI D4 1152 a0 (z_U D4 (z_R G 1138 a0) (((z_I D4 1137 a0) - (1 : Int32))).toNatClampNeg)) (z_R G 1139 a0) (((z_I (z_sI D4 1152 a0 (z_U D4 (z_R G 1138 a0) (((z_I D4 1137 a0) - (1 : Int32))).toNatClampNeg)) 1137 a0) - (1 : Int32))).toNatClampNeg)) 1137 a0) - (1 : Int32))).toNatClampNeg) &&& (281474976710655 : Int64)))  a0))) else (j_X11_goToPieces_129 G (z_sJ (z_sI (z_sI D4 1152 a0 (z_U D4 (z_R G 1138 a0) (((z_I D4 1137 a0) - (1 : Int32))).toNatClampNeg)) 1153 a0 (z_U (z_sI D4 1152 a0 (z_U D4 (z_R G 1138 a0) (((z_I D4 1137 a0) - (1 : Int32))).toNatClampNeg)) (z_R G 1139 a0) (((z_I (z_sI D4 1152 a0 (z_U D4 (z_R G 1138 a0) (((z_I D4 1137 a0) - (1 : Int32))).toNatClampNeg)) 1137 a0) - (1 : Int32))).toNatClampNeg)) 1154 a0 ((z_Y (z_sI (z_sI D4 1152 a0 (z_U D4 (z_R G 1138 a0) (((z_I D4 1137 a0) - (1 : Int32))).toNatClampNeg)) 1153 a0 (z_U (z_sI D4 1152 a0 (z_U D4 (z_R G 1138 a0) (((z_I D4 1137 a0) - (1 : Int32))).toNatClampNeg)) (z_R G 1139 a0) (((z_I (z_sI D4 1152 a0 (z_U D4 (z_R G 1138 a0) (((z_I D4 1137 a0) - (1 : Int32))).toNatClampNeg)) 1137 a0) - (1 : Int32))).toNatClampNeg)) (z_R G 1140 a0) (((z_I (z_sI (z_sI D4 1152 a0 (z_U D4 (z_R G 1138 a0) (((z_I D4 1137 a0) - (1 : Int32))).toNatClampNeg)) 1153 a0 (z_U (z_sI D4 1152 a0 (z_U D4 (z_R G 1138 a0) (((z_I D4 1137 a0) - (1 : Int32))).toNatClampNeg)) (z_R G 1139 a0) (((z_I (z_sI D4 1152 a0 (z_U D4 (z_R G 1138 a0) (((z_I D4 1137 a0) - (1 : Int32))).toNatClampNeg)) 1137 a0) - (1 : Int32))).toNatClampNeg)) 1137 a0) - (1 : Int32))).toNatClampNeg) &&& (281474976710655 : Int64)))  a0)))))))) else ((f_X11_fail G D4 a0 (9 : Int32)).bind (fun p48 => ((some (p48.1, p48.2))))))))))))))
set_option maxRecDepth 100000 in
set_option maxHeartbeats 4000000 in
theorem b_X11_goToPieces {q : z_Q} {X : z_X} {G : z_G} {D : z_D} {a0 : Nat} {r : Int32} {D1 : z_D} (o : z_O q X cX11_goToPieces 4 "FlashTrustModel" "goToPieces" (some .int)) (hX : x_R X = z_rm 7 0 0) (hK0 : z_K G a0 = 111) (h : f_X11_goToPieces G D a0 = some (r, D1)) : z_V q X 4 (z_F q X (some (.int r)) G D1 0 0) 0 0 G D 0 [(0, .ref (z_w q a0))] [] := by
  unfold f_X11_goToPieces at h
  refine v_aload_n o dX11_goToPieces_0 rfl 0 rfl ?_
  refine v_iconst o (3 : Int32) dX11_goToPieces_1 (by decide) ?_
  obtain ⟨p2, he1, h⟩ := z_bind h
  refine v_callV o yw_X11_takeTrusted ln_6_170 wi_X11_takeTrusted ws_X11_takeTrusted hX (by decide) 11 rfl hK0 (As := [.int (3 : Int32)]) rfl rfl (Nat.le_of_ble_eq_true rfl) (e_X11_takeTrusted hK0 he1) dX11_goToPieces_2 ?_
  refine v_istore_n o [(1, .int p2.1), (0, .ref (z_w q a0))] dX11_goToPieces_5 rfl (by decide) rfl ?_
  refine v_aload_n o dX11_goToPieces_6 rfl 1 rfl ?_
  obtain ⟨D4, he3, h⟩ := z_bind h
  refine v_callV o yw_X11_layState ln_5_63 wi_X11_layState ws_X11_layState hX (by decide) 11 rfl hK0 (As := []) rfl rfl (Nat.le_of_ble_eq_true rfl) (e_X11_layState hK0 he3) dX11_goToPieces_7 ?_
  refine v_aload_n o dX11_goToPieces_10 rfl 1 rfl ?_
  refine gt_11_37 o hK0 ln_5_132 dX11_goToPieces_11 ?_
  refine v_if_eq o 35 dX11_goToPieces_14 (by decide) (fun c5 => ?_) (fun c5 => ?_)
  · replace h := z_ip c5 h
    refine v_aload_n o dX11_goToPieces_35 rfl 1 rfl ?_
    refine v_bipush o (9 : Int32) dX11_goToPieces_36 (by decide) ?_
    obtain ⟨p7, he6, h⟩ := z_bind h
    refine v_callV o yw_X11_fail ln_6_117 wi_X11_fail ws_X11_fail hX (by decide) 11 rfl hK0 (As := [.int (9 : Int32)]) rfl rfl (Nat.le_of_ble_eq_true rfl) (e_X11_fail hK0 he6) dX11_goToPieces_38 ?_
    obtain ⟨hr, hs⟩ := Prod.mk.inj (z_some h)
    subst hr
    subst hs
    exact v_ireturn o dX11_goToPieces_41
  · replace h := z_in c5 h
    refine v_aload_n o dX11_goToPieces_17 rfl 1 rfl ?_
    obtain ⟨n8, h⟩ := z_gK_of h
    refine gt_11_38 o hK0 ln_5_133 (by rw [n8]; decide) dX11_goToPieces_18 ?_
    refine v_aload_n o dX11_goToPieces_21 rfl 1 rfl ?_
    refine gt_11_37 o hK0 ln_5_132 dX11_goToPieces_22 ?_
    refine v_iconst o (1 : Int32) dX11_goToPieces_25 (by decide) ?_
    refine v_isub o dX11_goToPieces_26 ?_
    obtain ⟨n9, n10, h⟩ := z_gA_of h
    refine v_iald o n9 n10 dX11_goToPieces_27 ?_
    refine v_aload_n o dX11_goToPieces_28 rfl 1 rfl ?_
    refine gt_11_17 o hK0 ln_5_112 dX11_goToPieces_29 ?_
    refine v_icmp_gt o 42 dX11_goToPieces_32 (by decide) (fun c11 => ?_) (fun c11 => ?_)
    · replace h := z_ip c11 h
      refine v_aload_n o dX11_goToPieces_42 rfl 1 rfl ?_
      refine v_aload_n o dX11_goToPieces_43 rfl 1 rfl ?_
      refine gt_11_38 o hK0 ln_5_133 (by rw [n8]; decide) dX11_goToPieces_44 ?_
      refine v_aload_n o dX11_goToPieces_47 rfl 1 rfl ?_
      refine gt_11_37 o hK0 ln_5_132 dX11_goToPieces_48 ?_
      refine v_iconst o (1 : Int32) dX11_goToPieces_51 (by decide) ?_
      refine v_isub o dX11_goToPieces_52 ?_
      obtain ⟨n12, n13, h⟩ := z_gA_of h
      refine v_iald o n12 n13 dX11_goToPieces_53 ?_
      refine pt_11_52 o hK0 ln_5_147 dX11_goToPieces_54 ?_
      refine v_aload_n o dX11_goToPieces_57 rfl 1 rfl ?_
      refine v_aload_n o dX11_goToPieces_58 rfl 1 rfl ?_
      obtain ⟨n14, h⟩ := z_gK_of h
      refine gt_11_39 o hK0 ln_5_134 (by rw [n14]; decide) dX11_goToPieces_59 ?_
      refine v_aload_n o dX11_goToPieces_62 rfl 1 rfl ?_
      refine gt_11_37 o hK0 ln_5_132 dX11_goToPieces_63 ?_
      refine v_iconst o (1 : Int32) dX11_goToPieces_66 (by decide) ?_
      refine v_isub o dX11_goToPieces_67 ?_
      obtain ⟨n15, n16, h⟩ := z_gA_of h
      refine v_iald o n15 n16 dX11_goToPieces_68 ?_
      refine pt_11_53 o hK0 ln_5_148 dX11_goToPieces_69 ?_
      refine v_aload_n o dX11_goToPieces_72 rfl 1 rfl ?_
      refine v_aload_n o dX11_goToPieces_73 rfl 1 rfl ?_
      obtain ⟨n17, h⟩ := z_gK_of h
      refine gt_11_40 o hK0 ln_5_135 (by rw [n17]; decide) dX11_goToPieces_74 ?_
      refine v_aload_n o dX11_goToPieces_77 rfl 1 rfl ?_
      refine gt_11_37 o hK0 ln_5_132 dX11_goToPieces_78 ?_
      refine v_iconst o (1 : Int32) dX11_goToPieces_81 (by decide) ?_
      refine v_isub o dX11_goToPieces_82 ?_
      obtain ⟨n18, n19, h⟩ := z_gA_of h
      refine v_lald o n18 n19 dX11_goToPieces_83 ?_
      refine v_ldc2 o ln_5_62 dX11_goToPieces_84 ?_
      refine v_land o dX11_goToPieces_87 ?_
      refine pt_11_54 o hK0 ln_5_149 dX11_goToPieces_88 ?_
      refine v_aload_n o dX11_goToPieces_91 rfl 1 rfl ?_
      refine gt_11_21 o hK0 ln_5_116 dX11_goToPieces_92 ?_
      refine v_aload_n o dX11_goToPieces_95 rfl 1 rfl ?_
      refine gt_11_52 o hK0 ln_5_147 dX11_goToPieces_96 ?_
      refine v_icmp_ne o 129 dX11_goToPieces_99 (by decide) (fun c20 => ?_) (fun c20 => ?_)
      · replace h := z_in c20 h
        refine v_sub [1] rfl ?_
        exact tj_X11_goToPieces_129 o hX hK0 h
      · replace h := z_ip c20 h
        refine v_aload_n o dX11_goToPieces_102 rfl 1 rfl ?_
        refine gt_11_22 o hK0 ln_5_117 dX11_goToPieces_103 ?_
        refine v_aload_n o dX11_goToPieces_106 rfl 1 rfl ?_
        refine gt_11_53 o hK0 ln_5_148 dX11_goToPieces_107 ?_
        refine v_icmp_ne o 129 dX11_goToPieces_110 (by decide) (fun c45 => ?_) (fun c45 => ?_)
        · replace h := z_in c45 h
          refine v_sub [1] rfl ?_
          exact tj_X11_goToPieces_129 o hX hK0 h
        · replace h := z_ip c45 h
          refine v_aload_n o dX11_goToPieces_113 rfl 1 rfl ?_
          refine gt_11_23 o hK0 ln_5_118 dX11_goToPieces_114 ?_
          refine v_aload_n o dX11_goToPieces_117 rfl 1 rfl ?_
          refine gt_11_54 o hK0 ln_5_149 dX11_goToPieces_118 ?_
          refine v_lcmp o dX11_goToPieces_121 ?_
          refine v_if_ne o 129 dX11_goToPieces_122 (by decide) (fun c46 => ?_) (fun c46 => ?_)
          · replace h := z_in c46 h
            refine v_sub [1] rfl ?_
            exact tj_X11_goToPieces_129 o hX hK0 h
          · replace h := z_ip c46 h
            refine v_iconst o (1 : Int32) dX11_goToPieces_125 (by decide) ?_
            refine v_goto o 130 dX11_goToPieces_126 (by decide) ?_
            refine v_sub [1] rfl ?_
            exact tj_X11_goToPieces_130 o hX hK0 h
    · replace h := z_in c11 h
      refine v_aload_n o dX11_goToPieces_35 rfl 1 rfl ?_
      refine v_bipush o (9 : Int32) dX11_goToPieces_36 (by decide) ?_
      obtain ⟨p48, he47, h⟩ := z_bind h
      refine v_callV o yw_X11_fail ln_6_117 wi_X11_fail ws_X11_fail hX (by decide) 11 rfl hK0 (As := [.int (9 : Int32)]) rfl rfl (Nat.le_of_ble_eq_true rfl) (e_X11_fail hK0 he47) dX11_goToPieces_38 ?_
      obtain ⟨hr, hs⟩ := Prod.mk.inj (z_some h)
      subst hr
      subst hs
      exact v_ireturn o dX11_goToPieces_41
theorem e_X11_goToPieces {q : z_Q} {l : Launch} {G : z_G} {D : z_D} {a0 : Nat} {r : Int32} {D1 : z_D} (hK0 : z_K G a0 = 111) (h : f_X11_goToPieces G D a0 = some (r, D1)) : z_E q l yX11_goToPieces cX11_goToPieces 4 (some .int) 7 0 0 [.ref (z_w q a0)] G D (some (.int r)) G D1 :=
  z_E.of (by decide) (Nat.le_of_ble_eq_true rfl) (fun X hX _ o => b_X11_goToPieces o hX hK0 h)
def f_X11_takeImages (G : z_G) (D : z_D) (a0 : Nat) : Option (Int32 × z_D) :=
  (f_X11_takeTrusted G D a0 (2 : Int32)).bind (fun p2 => ((f_X11_takeRole G p2.2 a0 (3 : Int32)).bind (fun D4 => ((f_X11_takeCame G D4 a0).bind (fun D6 => ((f_X11_bodyDigest G D6 a0).bind (fun p8 => ((if (lg_cmp p8.1 (z_J p2.2 1136 a0)) = (0 : Int32) then ((f_X11_has G p8.2 a0 (z_I p8.2 1157 a0) (z_I p8.2 1158 a0)).bind (fun p11 => ((if p11.1 = (0 : Int32) then ((f_X11_fail G p11.2 a0 (2 : Int32)).bind (fun p25 => ((some (p25.1, p25.2))))) else ((if (z_I p11.2 1131 a0) = (z_I p2.2 1135 a0) then ((if (0 : Int32) < (lg_cmp (z_J p11.2 1132 a0) (((z_I p11.2 1149 a0)).toInt64)) then ((f_X11_keepOther G p11.2 a0 (3 : Int32)).bind (fun D16 => ((if (z_I D16 1103 a0) = (0 : Int32) then ((f_X11_goToPieces G D16 a0).bind (fun p19 => ((some (p19.1, p19.2))))) else (((some ((-3 : Int32), D16)))))))) else ((f_X11_fail G p11.2 a0 (4 : Int32)).bind (fun p21 => ((some (p21.1, p21.2))))))) else ((f_X11_fail G p11.2 a0 (3 : Int32)).bind (fun p23 => ((some (p23.1, p23.2))))))))))) else ((f_X11_fail G p8.2 a0 (5 : Int32)).bind (fun p27 => ((some (p27.1, p27.2))))))))))))))
set_option maxRecDepth 100000 in
set_option maxHeartbeats 4000000 in
theorem b_X11_takeImages {q : z_Q} {X : z_X} {G : z_G} {D : z_D} {a0 : Nat} {r : Int32} {D1 : z_D} (o : z_O q X cX11_takeImages 5 "FlashTrustModel" "takeImages" (some .int)) (hX : x_R X = z_rm 9 0 0) (hK0 : z_K G a0 = 111) (h : f_X11_takeImages G D a0 = some (r, D1)) : z_V q X 5 (z_F q X (some (.int r)) G D1 0 0) 0 0 G D 0 [(0, .ref (z_w q a0))] [] := by
  unfold f_X11_takeImages at h
  refine v_aload_n o dX11_takeImages_0 rfl 0 rfl ?_
  refine v_iconst o (2 : Int32) dX11_takeImages_1 (by decide) ?_
  obtain ⟨p2, he1, h⟩ := z_bind h
  refine v_callV o yw_X11_takeTrusted ln_6_170 wi_X11_takeTrusted ws_X11_takeTrusted hX (by decide) 11 rfl hK0 (As := [.int (2 : Int32)]) rfl rfl (Nat.le_of_ble_eq_true rfl) (e_X11_takeTrusted hK0 he1) dX11_takeImages_2 ?_
  refine v_istore_n o [(1, .int p2.1), (0, .ref (z_w q a0))] dX11_takeImages_5 rfl (by decide) rfl ?_
  refine v_aload_n o dX11_takeImages_6 rfl 1 rfl ?_
  refine gt_11_35 o hK0 ln_5_130 dX11_takeImages_7 ?_
  refine v_istore_n o [(2, .int (z_I p2.2 1135 a0)), (1, .int p2.1), (0, .ref (z_w q a0))] dX11_takeImages_10 rfl (by decide) rfl ?_
  refine v_aload_n o dX11_takeImages_11 rfl 2 rfl ?_
  refine gt_11_36 o hK0 ln_5_131 dX11_takeImages_12 ?_
  refine v_lstore_n o [(3, .long (z_J p2.2 1136 a0)), (2, .int (z_I p2.2 1135 a0)), (1, .int p2.1), (0, .ref (z_w q a0))] dX11_takeImages_15 rfl (by decide) rfl ?_
  refine v_aload_n o dX11_takeImages_16 rfl 3 rfl ?_
  refine v_iconst o (3 : Int32) dX11_takeImages_17 (by decide) ?_
  obtain ⟨D4, he3, h⟩ := z_bind h
  refine v_callV o yw_X11_takeRole ln_6_215 wi_X11_takeRole ws_X11_takeRole hX (by decide) 11 rfl hK0 (As := [.int (3 : Int32)]) rfl rfl (Nat.le_of_ble_eq_true rfl) (e_X11_takeRole hK0 he3) dX11_takeImages_18 ?_
  refine v_aload_n o dX11_takeImages_21 rfl 3 rfl ?_
  obtain ⟨D6, he5, h⟩ := z_bind h
  refine v_callV o yw_X11_takeCame ln_6_183 wi_X11_takeCame ws_X11_takeCame hX (by decide) 11 rfl hK0 (As := []) rfl rfl (Nat.le_of_ble_eq_true rfl) (e_X11_takeCame hK0 he5) dX11_takeImages_22 ?_
  refine v_aload_n o dX11_takeImages_25 rfl 3 rfl ?_
  obtain ⟨p8, he7, h⟩ := z_bind h
  refine v_callV o yw_X11_bodyDigest ln_6_191 wi_X11_bodyDigest ws_X11_bodyDigest hX (by decide) 11 rfl hK0 (As := []) rfl rfl (Nat.le_of_ble_eq_true rfl) (e_X11_bodyDigest hK0 he7) dX11_takeImages_26 ?_
  refine v_lload_n o dX11_takeImages_29 rfl 0 rfl ?_
  refine v_lcmp o dX11_takeImages_30 ?_
  refine v_if_eq o 40 dX11_takeImages_31 (by decide) (fun c9 => ?_) (fun c9 => ?_)
  · replace h := z_ip c9 h
    refine v_aload_n o dX11_takeImages_40 rfl 3 rfl ?_
    refine v_aload_n o dX11_takeImages_41 rfl 3 rfl ?_
    refine gt_11_57 o hK0 ln_5_152 dX11_takeImages_42 ?_
    refine v_aload_n o dX11_takeImages_45 rfl 3 rfl ?_
    refine gt_11_58 o hK0 ln_5_153 dX11_takeImages_46 ?_
    obtain ⟨p11, he10, h⟩ := z_bind h
    refine v_callV o yw_X11_has ln_6_187 wi_X11_has ws_X11_has hX (by decide) 11 rfl hK0 (As := [.int (z_I p8.2 1157 a0), .int (z_I p8.2 1158 a0)]) rfl rfl (Nat.le_of_ble_eq_true rfl) (e_X11_has hK0 he10) dX11_takeImages_49 ?_
    refine v_if_ne o 61 dX11_takeImages_52 (by decide) (fun c12 => ?_) (fun c12 => ?_)
    · replace h := z_in c12 h
      refine v_aload_n o dX11_takeImages_61 rfl 3 rfl ?_
      refine gt_11_31 o hK0 ln_5_126 dX11_takeImages_62 ?_
      refine v_iload_n o dX11_takeImages_65 rfl 1 rfl ?_
      refine v_icmp_eq o 75 dX11_takeImages_66 (by decide) (fun c13 => ?_) (fun c13 => ?_)
      · replace h := z_ip c13 h
        refine v_aload_n o dX11_takeImages_75 rfl 3 rfl ?_
        refine gt_11_32 o hK0 ln_5_127 dX11_takeImages_76 ?_
        refine v_aload_n o dX11_takeImages_79 rfl 3 rfl ?_
        refine gt_11_49 o hK0 ln_5_144 dX11_takeImages_80 ?_
        refine v_i2l o dX11_takeImages_83 ?_
        refine v_lcmp o dX11_takeImages_84 ?_
        refine v_if_gt o 94 dX11_takeImages_85 (by decide) (fun c14 => ?_) (fun c14 => ?_)
        · replace h := z_ip c14 h
          refine v_aload_n o dX11_takeImages_94 rfl 3 rfl ?_
          refine v_iconst o (3 : Int32) dX11_takeImages_95 (by decide) ?_
          obtain ⟨D16, he15, h⟩ := z_bind h
          refine v_callV o yw_X11_keepOther ln_6_223 wi_X11_keepOther ws_X11_keepOther hX (by decide) 11 rfl hK0 (As := [.int (3 : Int32)]) rfl rfl (Nat.le_of_ble_eq_true rfl) (e_X11_keepOther hK0 he15) dX11_takeImages_96 ?_
          refine v_aload_n o dX11_takeImages_99 rfl 3 rfl ?_
          refine gt_11_3 o hK0 ln_5_98 dX11_takeImages_100 ?_
          refine v_if_eq o 111 dX11_takeImages_103 (by decide) (fun c17 => ?_) (fun c17 => ?_)
          · replace h := z_ip c17 h
            refine v_aload_n o dX11_takeImages_111 rfl 3 rfl ?_
            obtain ⟨p19, he18, h⟩ := z_bind h
            refine v_callV o yw_X11_goToPieces ln_7_7 wi_X11_goToPieces ws_X11_goToPieces hX (by decide) 11 rfl hK0 (As := []) rfl rfl (Nat.le_of_ble_eq_true rfl) (e_X11_goToPieces hK0 he18) dX11_takeImages_112 ?_
            obtain ⟨hr, hs⟩ := Prod.mk.inj (z_some h)
            subst hr
            subst hs
            exact v_ireturn o dX11_takeImages_115
          · replace h := z_in c17 h
            refine v_bipush o (-3 : Int32) dX11_takeImages_106 (by decide) ?_
            refine v_goto o 115 dX11_takeImages_108 (by decide) ?_
            obtain ⟨hr, hs⟩ := Prod.mk.inj (z_some h)
            subst hr
            subst hs
            exact v_ireturn o dX11_takeImages_115
        · replace h := z_in c14 h
          refine v_aload_n o dX11_takeImages_88 rfl 3 rfl ?_
          refine v_iconst o (4 : Int32) dX11_takeImages_89 (by decide) ?_
          obtain ⟨p21, he20, h⟩ := z_bind h
          refine v_callV o yw_X11_fail ln_6_117 wi_X11_fail ws_X11_fail hX (by decide) 11 rfl hK0 (As := [.int (4 : Int32)]) rfl rfl (Nat.le_of_ble_eq_true rfl) (e_X11_fail hK0 he20) dX11_takeImages_90 ?_
          obtain ⟨hr, hs⟩ := Prod.mk.inj (z_some h)
          subst hr
          subst hs
          exact v_ireturn o dX11_takeImages_93
      · replace h := z_in c13 h
        refine v_aload_n o dX11_takeImages_69 rfl 3 rfl ?_
        refine v_iconst o (3 : Int32) dX11_takeImages_70 (by decide) ?_
        obtain ⟨p23, he22, h⟩ := z_bind h
        refine v_callV o yw_X11_fail ln_6_117 wi_X11_fail ws_X11_fail hX (by decide) 11 rfl hK0 (As := [.int (3 : Int32)]) rfl rfl (Nat.le_of_ble_eq_true rfl) (e_X11_fail hK0 he22) dX11_takeImages_71 ?_
        obtain ⟨hr, hs⟩ := Prod.mk.inj (z_some h)
        subst hr
        subst hs
        exact v_ireturn o dX11_takeImages_74
    · replace h := z_ip c12 h
      refine v_aload_n o dX11_takeImages_55 rfl 3 rfl ?_
      refine v_iconst o (2 : Int32) dX11_takeImages_56 (by decide) ?_
      obtain ⟨p25, he24, h⟩ := z_bind h
      refine v_callV o yw_X11_fail ln_6_117 wi_X11_fail ws_X11_fail hX (by decide) 11 rfl hK0 (As := [.int (2 : Int32)]) rfl rfl (Nat.le_of_ble_eq_true rfl) (e_X11_fail hK0 he24) dX11_takeImages_57 ?_
      obtain ⟨hr, hs⟩ := Prod.mk.inj (z_some h)
      subst hr
      subst hs
      exact v_ireturn o dX11_takeImages_60
  · replace h := z_in c9 h
    refine v_aload_n o dX11_takeImages_34 rfl 3 rfl ?_
    refine v_iconst o (5 : Int32) dX11_takeImages_35 (by decide) ?_
    obtain ⟨p27, he26, h⟩ := z_bind h
    refine v_callV o yw_X11_fail ln_6_117 wi_X11_fail ws_X11_fail hX (by decide) 11 rfl hK0 (As := [.int (5 : Int32)]) rfl rfl (Nat.le_of_ble_eq_true rfl) (e_X11_fail hK0 he26) dX11_takeImages_36 ?_
    obtain ⟨hr, hs⟩ := Prod.mk.inj (z_some h)
    subst hr
    subst hs
    exact v_ireturn o dX11_takeImages_39
theorem e_X11_takeImages {q : z_Q} {l : Launch} {G : z_G} {D : z_D} {a0 : Nat} {r : Int32} {D1 : z_D} (hK0 : z_K G a0 = 111) (h : f_X11_takeImages G D a0 = some (r, D1)) : z_E q l yX11_takeImages cX11_takeImages 5 (some .int) 9 0 0 [.ref (z_w q a0)] G D (some (.int r)) G D1 :=
  z_E.of (by decide) (Nat.le_of_ble_eq_true rfl) (fun X hX _ o => b_X11_takeImages o hX hK0 h)
def f_X11_goToImages (G : z_G) (D : z_D) (a0 : Nat) : Option (Int32 × z_D) :=
  (f_X11_takeTrusted G D a0 (2 : Int32)).bind (fun p2 => ((f_X11_takeTrusted G (z_sI p2.2 1148 a0 (4 : Int32)) a0 (3 : Int32)).bind (fun p4 => ((if p4.1 = (0 : Int32) then ((some ((4 : Int32), p4.2))) else ((f_X11_bodyDigest G p4.2 a0).bind (fun p7 => ((if (lg_cmp p7.1 (z_J p2.2 1136 a0)) = (0 : Int32) then ((f_X11_saveCame G p7.2 a0).bind (fun D10 => ((f_X11_takeImages G D10 a0).bind (fun p12 => ((some (p12.1, p12.2))))))) else ((some ((4 : Int32), p7.2))))))))))))
set_option maxRecDepth 100000 in
set_option maxHeartbeats 4000000 in
theorem b_X11_goToImages {q : z_Q} {X : z_X} {G : z_G} {D : z_D} {a0 : Nat} {r : Int32} {D1 : z_D} (o : z_O q X cX11_goToImages 4 "FlashTrustModel" "goToImages" (some .int)) (hX : x_R X = z_rm 10 0 0) (hK0 : z_K G a0 = 111) (h : f_X11_goToImages G D a0 = some (r, D1)) : z_V q X 4 (z_F q X (some (.int r)) G D1 0 0) 0 0 G D 0 [(0, .ref (z_w q a0))] [] := by
  unfold f_X11_goToImages at h
  refine v_aload_n o dX11_goToImages_0 rfl 0 rfl ?_
  refine v_iconst o (2 : Int32) dX11_goToImages_1 (by decide) ?_
  obtain ⟨p2, he1, h⟩ := z_bind h
  refine v_callV o yw_X11_takeTrusted ln_6_170 wi_X11_takeTrusted ws_X11_takeTrusted hX (by decide) 11 rfl hK0 (As := [.int (2 : Int32)]) rfl rfl (Nat.le_of_ble_eq_true rfl) (e_X11_takeTrusted hK0 he1) dX11_goToImages_2 ?_
  refine v_istore_n o [(1, .int p2.1), (0, .ref (z_w q a0))] dX11_goToImages_5 rfl (by decide) rfl ?_
  refine v_aload_n o dX11_goToImages_6 rfl 1 rfl ?_
  refine gt_11_36 o hK0 ln_5_131 dX11_goToImages_7 ?_
  refine v_lstore_n o [(2, .long (z_J p2.2 1136 a0)), (1, .int p2.1), (0, .ref (z_w q a0))] dX11_goToImages_10 rfl (by decide) rfl ?_
  refine v_aload_n o dX11_goToImages_11 rfl 2 rfl ?_
  refine v_iconst o (4 : Int32) dX11_goToImages_12 (by decide) ?_
  refine pt_11_48 o hK0 ln_5_143 dX11_goToImages_13 ?_
  refine v_aload_n o dX11_goToImages_16 rfl 2 rfl ?_
  refine v_iconst o (3 : Int32) dX11_goToImages_17 (by decide) ?_
  obtain ⟨p4, he3, h⟩ := z_bind h
  refine v_callV o yw_X11_takeTrusted ln_6_170 wi_X11_takeTrusted ws_X11_takeTrusted hX (by decide) 11 rfl hK0 (As := [.int (3 : Int32)]) rfl rfl (Nat.le_of_ble_eq_true rfl) (e_X11_takeTrusted hK0 he3) dX11_goToImages_18 ?_
  refine v_if_eq o 33 dX11_goToImages_21 (by decide) (fun c5 => ?_) (fun c5 => ?_)
  · replace h := z_ip c5 h
    refine v_iconst o (4 : Int32) dX11_goToImages_33 (by decide) ?_
    obtain ⟨hr, hs⟩ := Prod.mk.inj (z_some h)
    subst hr
    subst hs
    exact v_ireturn o dX11_goToImages_34
  · replace h := z_in c5 h
    refine v_aload_n o dX11_goToImages_24 rfl 2 rfl ?_
    obtain ⟨p7, he6, h⟩ := z_bind h
    refine v_callV o yw_X11_bodyDigest ln_6_191 wi_X11_bodyDigest ws_X11_bodyDigest hX (by decide) 11 rfl hK0 (As := []) rfl rfl (Nat.le_of_ble_eq_true rfl) (e_X11_bodyDigest hK0 he6) dX11_goToImages_25 ?_
    refine v_lload_n o dX11_goToImages_28 rfl 0 rfl ?_
    refine v_lcmp o dX11_goToImages_29 ?_
    refine v_if_eq o 35 dX11_goToImages_30 (by decide) (fun c8 => ?_) (fun c8 => ?_)
    · replace h := z_ip c8 h
      refine v_aload_n o dX11_goToImages_35 rfl 2 rfl ?_
      obtain ⟨D10, he9, h⟩ := z_bind h
      refine v_callV o yw_X11_saveCame ln_6_231 wi_X11_saveCame ws_X11_saveCame hX (by decide) 11 rfl hK0 (As := []) rfl rfl (Nat.le_of_ble_eq_true rfl) (e_X11_saveCame hK0 he9) dX11_goToImages_36 ?_
      refine v_aload_n o dX11_goToImages_39 rfl 2 rfl ?_
      obtain ⟨p12, he11, h⟩ := z_bind h
      refine v_callV o yw_X11_takeImages ln_7_3 wi_X11_takeImages ws_X11_takeImages hX (by decide) 11 rfl hK0 (As := []) rfl rfl (Nat.le_of_ble_eq_true rfl) (e_X11_takeImages hK0 he11) dX11_goToImages_40 ?_
      obtain ⟨hr, hs⟩ := Prod.mk.inj (z_some h)
      subst hr
      subst hs
      exact v_ireturn o dX11_goToImages_43
    · replace h := z_in c8 h
      refine v_iconst o (4 : Int32) dX11_goToImages_33 (by decide) ?_
      obtain ⟨hr, hs⟩ := Prod.mk.inj (z_some h)
      subst hr
      subst hs
      exact v_ireturn o dX11_goToImages_34
theorem e_X11_goToImages {q : z_Q} {l : Launch} {G : z_G} {D : z_D} {a0 : Nat} {r : Int32} {D1 : z_D} (hK0 : z_K G a0 = 111) (h : f_X11_goToImages G D a0 = some (r, D1)) : z_E q l yX11_goToImages cX11_goToImages 4 (some .int) 10 0 0 [.ref (z_w q a0)] G D (some (.int r)) G D1 :=
  z_E.of (by decide) (Nat.le_of_ble_eq_true rfl) (fun X hX _ o => b_X11_goToImages o hX hK0 h)
def f_X11_takeList (G : z_G) (D : z_D) (a0 : Nat) : Option (Int32 × z_D) :=
  (f_X11_takeTrusted G D a0 (1 : Int32)).bind (fun p2 => ((f_X11_takeRole G p2.2 a0 (2 : Int32)).bind (fun D4 => ((f_X11_takeWas G D4 a0 (2 : Int32)).bind (fun D6 => ((f_X11_takeCame G D6 a0).bind (fun D8 => ((f_X11_bodyDigest G D8 a0).bind (fun p10 => ((if (lg_cmp p10.1 (z_J p2.2 1136 a0)) = (0 : Int32) then ((f_X11_has G p10.2 a0 (z_I p10.2 1157 a0) (z_I p10.2 1158 a0)).bind (fun p13 => ((if p13.1 = (0 : Int32) then ((f_X11_fail G p13.2 a0 (2 : Int32)).bind (fun p30 => ((some (p30.1, p30.2))))) else ((if (z_I p13.2 1131 a0) = (z_I p2.2 1135 a0) then ((if (z_I p13.2 1161 a0) ≤ (z_I p13.2 1135 a0) then ((if (0 : Int32) < (lg_cmp (z_J p13.2 1132 a0) (((z_I p13.2 1149 a0)).toInt64)) then ((f_X11_keepOther G p13.2 a0 (2 : Int32)).bind (fun D19 => ((if (z_I D19 1103 a0) = (0 : Int32) then ((f_X11_goToImages G D19 a0).bind (fun p22 => ((some (p22.1, p22.2))))) else (((some ((-3 : Int32), D19)))))))) else ((f_X11_fail G p13.2 a0 (4 : Int32)).bind (fun p24 => ((some (p24.1, p24.2))))))) else ((f_X11_fail G p13.2 a0 (10 : Int32)).bind (fun p26 => ((some (p26.1, p26.2))))))) else ((f_X11_fail G p13.2 a0 (3 : Int32)).bind (fun p28 => ((some (p28.1, p28.2))))))))))) else ((f_X11_fail G p10.2 a0 (5 : Int32)).bind (fun p32 => ((some (p32.1, p32.2))))))))))))))))
set_option maxRecDepth 100000 in
set_option maxHeartbeats 4000000 in
theorem b_X11_takeList {q : z_Q} {X : z_X} {G : z_G} {D : z_D} {a0 : Nat} {r : Int32} {D1 : z_D} (o : z_O q X cX11_takeList 5 "FlashTrustModel" "takeList" (some .int)) (hX : x_R X = z_rm 11 0 0) (hK0 : z_K G a0 = 111) (h : f_X11_takeList G D a0 = some (r, D1)) : z_V q X 5 (z_F q X (some (.int r)) G D1 0 0) 0 0 G D 0 [(0, .ref (z_w q a0))] [] := by
  unfold f_X11_takeList at h
  refine v_aload_n o dX11_takeList_0 rfl 0 rfl ?_
  refine v_iconst o (1 : Int32) dX11_takeList_1 (by decide) ?_
  obtain ⟨p2, he1, h⟩ := z_bind h
  refine v_callV o yw_X11_takeTrusted ln_6_170 wi_X11_takeTrusted ws_X11_takeTrusted hX (by decide) 11 rfl hK0 (As := [.int (1 : Int32)]) rfl rfl (Nat.le_of_ble_eq_true rfl) (e_X11_takeTrusted hK0 he1) dX11_takeList_2 ?_
  refine v_istore_n o [(1, .int p2.1), (0, .ref (z_w q a0))] dX11_takeList_5 rfl (by decide) rfl ?_
  refine v_aload_n o dX11_takeList_6 rfl 1 rfl ?_
  refine gt_11_35 o hK0 ln_5_130 dX11_takeList_7 ?_
  refine v_istore_n o [(2, .int (z_I p2.2 1135 a0)), (1, .int p2.1), (0, .ref (z_w q a0))] dX11_takeList_10 rfl (by decide) rfl ?_
  refine v_aload_n o dX11_takeList_11 rfl 2 rfl ?_
  refine gt_11_36 o hK0 ln_5_131 dX11_takeList_12 ?_
  refine v_lstore_n o [(3, .long (z_J p2.2 1136 a0)), (2, .int (z_I p2.2 1135 a0)), (1, .int p2.1), (0, .ref (z_w q a0))] dX11_takeList_15 rfl (by decide) rfl ?_
  refine v_aload_n o dX11_takeList_16 rfl 3 rfl ?_
  refine v_iconst o (2 : Int32) dX11_takeList_17 (by decide) ?_
  obtain ⟨D4, he3, h⟩ := z_bind h
  refine v_callV o yw_X11_takeRole ln_6_215 wi_X11_takeRole ws_X11_takeRole hX (by decide) 11 rfl hK0 (As := [.int (2 : Int32)]) rfl rfl (Nat.le_of_ble_eq_true rfl) (e_X11_takeRole hK0 he3) dX11_takeList_18 ?_
  refine v_aload_n o dX11_takeList_21 rfl 3 rfl ?_
  refine v_iconst o (2 : Int32) dX11_takeList_22 (by decide) ?_
  obtain ⟨D6, he5, h⟩ := z_bind h
  refine v_callV o yw_X11_takeWas ln_6_219 wi_X11_takeWas ws_X11_takeWas hX (by decide) 11 rfl hK0 (As := [.int (2 : Int32)]) rfl rfl (Nat.le_of_ble_eq_true rfl) (e_X11_takeWas hK0 he5) dX11_takeList_23 ?_
  refine v_aload_n o dX11_takeList_26 rfl 3 rfl ?_
  obtain ⟨D8, he7, h⟩ := z_bind h
  refine v_callV o yw_X11_takeCame ln_6_183 wi_X11_takeCame ws_X11_takeCame hX (by decide) 11 rfl hK0 (As := []) rfl rfl (Nat.le_of_ble_eq_true rfl) (e_X11_takeCame hK0 he7) dX11_takeList_27 ?_
  refine v_aload_n o dX11_takeList_30 rfl 3 rfl ?_
  obtain ⟨p10, he9, h⟩ := z_bind h
  refine v_callV o yw_X11_bodyDigest ln_6_191 wi_X11_bodyDigest ws_X11_bodyDigest hX (by decide) 11 rfl hK0 (As := []) rfl rfl (Nat.le_of_ble_eq_true rfl) (e_X11_bodyDigest hK0 he9) dX11_takeList_31 ?_
  refine v_lload_n o dX11_takeList_34 rfl 0 rfl ?_
  refine v_lcmp o dX11_takeList_35 ?_
  refine v_if_eq o 45 dX11_takeList_36 (by decide) (fun c11 => ?_) (fun c11 => ?_)
  · replace h := z_ip c11 h
    refine v_aload_n o dX11_takeList_45 rfl 3 rfl ?_
    refine v_aload_n o dX11_takeList_46 rfl 3 rfl ?_
    refine gt_11_57 o hK0 ln_5_152 dX11_takeList_47 ?_
    refine v_aload_n o dX11_takeList_50 rfl 3 rfl ?_
    refine gt_11_58 o hK0 ln_5_153 dX11_takeList_51 ?_
    obtain ⟨p13, he12, h⟩ := z_bind h
    refine v_callV o yw_X11_has ln_6_187 wi_X11_has ws_X11_has hX (by decide) 11 rfl hK0 (As := [.int (z_I p10.2 1157 a0), .int (z_I p10.2 1158 a0)]) rfl rfl (Nat.le_of_ble_eq_true rfl) (e_X11_has hK0 he12) dX11_takeList_54 ?_
    refine v_if_ne o 66 dX11_takeList_57 (by decide) (fun c14 => ?_) (fun c14 => ?_)
    · replace h := z_in c14 h
      refine v_aload_n o dX11_takeList_66 rfl 3 rfl ?_
      refine gt_11_31 o hK0 ln_5_126 dX11_takeList_67 ?_
      refine v_iload_n o dX11_takeList_70 rfl 1 rfl ?_
      refine v_icmp_eq o 80 dX11_takeList_71 (by decide) (fun c15 => ?_) (fun c15 => ?_)
      · replace h := z_ip c15 h
        refine v_aload_n o dX11_takeList_80 rfl 3 rfl ?_
        refine gt_11_35 o hK0 ln_5_130 dX11_takeList_81 ?_
        refine v_aload_n o dX11_takeList_84 rfl 3 rfl ?_
        refine gt_11_61 o hK0 ln_5_156 dX11_takeList_85 ?_
        refine v_icmp_ge o 98 dX11_takeList_88 (by decide) (fun c16 => ?_) (fun c16 => ?_)
        · replace h := z_ip c16 h
          refine v_aload_n o dX11_takeList_98 rfl 3 rfl ?_
          refine gt_11_32 o hK0 ln_5_127 dX11_takeList_99 ?_
          refine v_aload_n o dX11_takeList_102 rfl 3 rfl ?_
          refine gt_11_49 o hK0 ln_5_144 dX11_takeList_103 ?_
          refine v_i2l o dX11_takeList_106 ?_
          refine v_lcmp o dX11_takeList_107 ?_
          refine v_if_gt o 117 dX11_takeList_108 (by decide) (fun c17 => ?_) (fun c17 => ?_)
          · replace h := z_ip c17 h
            refine v_aload_n o dX11_takeList_117 rfl 3 rfl ?_
            refine v_iconst o (2 : Int32) dX11_takeList_118 (by decide) ?_
            obtain ⟨D19, he18, h⟩ := z_bind h
            refine v_callV o yw_X11_keepOther ln_6_223 wi_X11_keepOther ws_X11_keepOther hX (by decide) 11 rfl hK0 (As := [.int (2 : Int32)]) rfl rfl (Nat.le_of_ble_eq_true rfl) (e_X11_keepOther hK0 he18) dX11_takeList_119 ?_
            refine v_aload_n o dX11_takeList_122 rfl 3 rfl ?_
            refine gt_11_3 o hK0 ln_5_98 dX11_takeList_123 ?_
            refine v_if_eq o 134 dX11_takeList_126 (by decide) (fun c20 => ?_) (fun c20 => ?_)
            · replace h := z_ip c20 h
              refine v_aload_n o dX11_takeList_134 rfl 3 rfl ?_
              obtain ⟨p22, he21, h⟩ := z_bind h
              refine v_callV o yw_X11_goToImages ln_6_239 wi_X11_goToImages ws_X11_goToImages hX (by decide) 11 rfl hK0 (As := []) rfl rfl (Nat.le_of_ble_eq_true rfl) (e_X11_goToImages hK0 he21) dX11_takeList_135 ?_
              obtain ⟨hr, hs⟩ := Prod.mk.inj (z_some h)
              subst hr
              subst hs
              exact v_ireturn o dX11_takeList_138
            · replace h := z_in c20 h
              refine v_bipush o (-3 : Int32) dX11_takeList_129 (by decide) ?_
              refine v_goto o 138 dX11_takeList_131 (by decide) ?_
              obtain ⟨hr, hs⟩ := Prod.mk.inj (z_some h)
              subst hr
              subst hs
              exact v_ireturn o dX11_takeList_138
          · replace h := z_in c17 h
            refine v_aload_n o dX11_takeList_111 rfl 3 rfl ?_
            refine v_iconst o (4 : Int32) dX11_takeList_112 (by decide) ?_
            obtain ⟨p24, he23, h⟩ := z_bind h
            refine v_callV o yw_X11_fail ln_6_117 wi_X11_fail ws_X11_fail hX (by decide) 11 rfl hK0 (As := [.int (4 : Int32)]) rfl rfl (Nat.le_of_ble_eq_true rfl) (e_X11_fail hK0 he23) dX11_takeList_113 ?_
            obtain ⟨hr, hs⟩ := Prod.mk.inj (z_some h)
            subst hr
            subst hs
            exact v_ireturn o dX11_takeList_116
        · replace h := z_in c16 h
          refine v_aload_n o dX11_takeList_91 rfl 3 rfl ?_
          refine v_bipush o (10 : Int32) dX11_takeList_92 (by decide) ?_
          obtain ⟨p26, he25, h⟩ := z_bind h
          refine v_callV o yw_X11_fail ln_6_117 wi_X11_fail ws_X11_fail hX (by decide) 11 rfl hK0 (As := [.int (10 : Int32)]) rfl rfl (Nat.le_of_ble_eq_true rfl) (e_X11_fail hK0 he25) dX11_takeList_94 ?_
          obtain ⟨hr, hs⟩ := Prod.mk.inj (z_some h)
          subst hr
          subst hs
          exact v_ireturn o dX11_takeList_97
      · replace h := z_in c15 h
        refine v_aload_n o dX11_takeList_74 rfl 3 rfl ?_
        refine v_iconst o (3 : Int32) dX11_takeList_75 (by decide) ?_
        obtain ⟨p28, he27, h⟩ := z_bind h
        refine v_callV o yw_X11_fail ln_6_117 wi_X11_fail ws_X11_fail hX (by decide) 11 rfl hK0 (As := [.int (3 : Int32)]) rfl rfl (Nat.le_of_ble_eq_true rfl) (e_X11_fail hK0 he27) dX11_takeList_76 ?_
        obtain ⟨hr, hs⟩ := Prod.mk.inj (z_some h)
        subst hr
        subst hs
        exact v_ireturn o dX11_takeList_79
    · replace h := z_ip c14 h
      refine v_aload_n o dX11_takeList_60 rfl 3 rfl ?_
      refine v_iconst o (2 : Int32) dX11_takeList_61 (by decide) ?_
      obtain ⟨p30, he29, h⟩ := z_bind h
      refine v_callV o yw_X11_fail ln_6_117 wi_X11_fail ws_X11_fail hX (by decide) 11 rfl hK0 (As := [.int (2 : Int32)]) rfl rfl (Nat.le_of_ble_eq_true rfl) (e_X11_fail hK0 he29) dX11_takeList_62 ?_
      obtain ⟨hr, hs⟩ := Prod.mk.inj (z_some h)
      subst hr
      subst hs
      exact v_ireturn o dX11_takeList_65
  · replace h := z_in c11 h
    refine v_aload_n o dX11_takeList_39 rfl 3 rfl ?_
    refine v_iconst o (5 : Int32) dX11_takeList_40 (by decide) ?_
    obtain ⟨p32, he31, h⟩ := z_bind h
    refine v_callV o yw_X11_fail ln_6_117 wi_X11_fail ws_X11_fail hX (by decide) 11 rfl hK0 (As := [.int (5 : Int32)]) rfl rfl (Nat.le_of_ble_eq_true rfl) (e_X11_fail hK0 he31) dX11_takeList_41 ?_
    obtain ⟨hr, hs⟩ := Prod.mk.inj (z_some h)
    subst hr
    subst hs
    exact v_ireturn o dX11_takeList_44
theorem e_X11_takeList {q : z_Q} {l : Launch} {G : z_G} {D : z_D} {a0 : Nat} {r : Int32} {D1 : z_D} (hK0 : z_K G a0 = 111) (h : f_X11_takeList G D a0 = some (r, D1)) : z_E q l yX11_takeList cX11_takeList 5 (some .int) 11 0 0 [.ref (z_w q a0)] G D (some (.int r)) G D1 :=
  z_E.of (by decide) (Nat.le_of_ble_eq_true rfl) (fun X hX _ o => b_X11_takeList o hX hK0 h)
