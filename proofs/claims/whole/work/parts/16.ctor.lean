def f_X5_init (G : z_G) (D : z_D) (a0 : Nat) (a1 : Int32) : Option (z_G × z_D) :=
  z_gL (if a1 < (0 : Int32) then (0 : Int32) else a1) (z_let (z_nG G 1 ((if a1 < (0 : Int32) then (0 : Int32) else a1)).toNatClampNeg) (fun G3 => (z_gK G3 1 (z_Z G) (z_gK G3 105 a0 (z_let (z_sR G3 500 a0 (z_Z G)) (fun G6 => ((some (G6, (z_nD (z_sI D 501 a0 (0 : Int32)) (z_Z G)))))))))))
set_option maxRecDepth 100000 in
set_option maxHeartbeats 4000000 in
theorem b_X5_init {q : z_Q} {X : z_X} {G : z_G} {D : z_D} {a0 : Nat} {a1 : Int32} {G1 : z_G} {D1 : z_D} (o : z_O q X cX5_init 2 "FlashTrust$Row" "<init>" none) (hX : x_R X = z_rm 1 1 3400) (hK0 : z_K G a0 = 105) (h : f_X5_init G D a0 a1 = some (G1, D1)) : z_V q X 2 (z_F q X none G1 D1 1 3400) 0 0 G D 0 [(0, .ref (z_w q a0)), (1, .int a1)] [] := by
  unfold f_X5_init at h
  refine v_aload_n o dX5_init_0 rfl 0 rfl ?_
  refine v_objInit o ln_1_28 ob_inst ob_code hX (by decide) (Nat.le_of_ble_eq_true rfl) dX5_init_1 ?_
  refine v_aload_n o dX5_init_4 rfl 0 rfl ?_
  refine v_iconst o (0 : Int32) dX5_init_5 (by decide) ?_
  refine pt_5_1 o hK0 ln_1_33 dX5_init_6 ?_
  refine v_aload_n o dX5_init_9 rfl 0 rfl ?_
  refine v_iload_n o dX5_init_10 rfl 1 rfl ?_
  refine v_iconst o (0 : Int32) dX5_init_11 (by decide) ?_
  refine v_mmax o ln_1_29 hX (by decide) (Nat.le_of_ble_eq_true rfl) dX5_init_12 ?_
  obtain ⟨n1, n2, h⟩ := z_gL_of h
  refine v_newI o 3400 ac_int n1 n2 (by decide) hX (by decide) dX5_init_15 ?_
  replace h := z_let_of h
  generalize (z_nG G 1 ((if a1 < (0 : Int32) then (0 : Int32) else a1)).toNatClampNeg) = G3 at h ⊢
  obtain ⟨n4, h⟩ := z_gK_of h
  obtain ⟨n5, h⟩ := z_gK_of h
  refine pt_5_0 o (by rw [n4]; decide) n5 ln_1_32 rfl rfl dX5_init_17 ?_
  replace h := z_let_of h
  generalize (z_sR G3 500 a0 (z_Z G)) = G6 at h ⊢
  obtain ⟨hr, hs⟩ := Prod.mk.inj (z_some h)
  subst hr
  subst hs
  refine v_widen (k1 := 1) (n1 := 3400) (by decide) (by decide) ?_
  exact v_return o dX5_init_20
theorem e_X5_init {q : z_Q} {l : Launch} {G : z_G} {D : z_D} {a0 : Nat} {a1 : Int32} {G1 : z_G} {D1 : z_D} (hK0 : z_K G a0 = 105) (h : f_X5_init G D a0 a1 = some (G1, D1)) : z_E q l yX5_init cX5_init 2 none 1 1 3400 [.ref (z_w q a0), .int a1] G D none G1 D1 :=
  z_E.of (by decide) (Nat.le_of_ble_eq_true rfl) (fun X hX _ o => b_X5_init o hX hK0 h)
def f_X4_init (G : z_G) (D : z_D) (a0 : Nat) : Option (z_G × z_D) :=
  z_let (z_nG G 105 0) (fun G1 => (z_gK G1 105 (z_Z G) ((f_X5_init G1 (z_nD D (z_Z G)) (z_Z G) (75 : Int32)).bind (fun p4 => (z_gK p4.1 105 (z_Z G) (z_gK p4.1 104 a0 (z_let (z_sR p4.1 400 a0 (z_Z G)) (fun G7 => (z_let (z_nG G7 1 ((4 : Int32)).toNatClampNeg) (fun G8 => (z_gK G8 1 (z_Z G7) (z_gK G8 104 a0 (z_let (z_sR G8 407 a0 (z_Z G7)) (fun G11 => (z_let (z_nG G11 1 ((4 : Int32)).toNatClampNeg) (fun G12 => (z_gK G12 1 (z_Z G11) (z_gK G12 104 a0 (z_let (z_sR G12 408 a0 (z_Z G11)) (fun G15 => (z_let (z_nG G15 1 ((4 : Int32)).toNatClampNeg) (fun G16 => (z_gK G16 1 (z_Z G15) (z_gK G16 104 a0 (z_let (z_sR G16 412 a0 (z_Z G15)) (fun G19 => (z_let (z_nG G19 1 ((4 : Int32)).toNatClampNeg) (fun G20 => (z_gK G20 1 (z_Z G19) (z_gK G20 104 a0 (z_let (z_sR G20 413 a0 (z_Z G19)) (fun G23 => (z_let (z_nG G23 2 ((4 : Int32)).toNatClampNeg) (fun G24 => (z_gK G24 2 (z_Z G23) (z_gK G24 104 a0 (z_let (z_sR G24 414 a0 (z_Z G23)) (fun G27 => ((some (G27, (z_nD (z_nD (z_nD (z_nD (z_nD p4.2 (z_Z G7)) (z_Z G11)) (z_Z G15)) (z_Z G19)) (z_Z G23)))))))))))))))))))))))))))))))))))))))))))
set_option maxRecDepth 100000 in
set_option maxHeartbeats 4000000 in
theorem b_X4_init {q : z_Q} {X : z_X} {G : z_G} {D : z_D} {a0 : Nat} {G1 : z_G} {D1 : z_D} (o : z_O q X cX4_init 1 "FlashTrust$Paper" "<init>" none) (hX : x_R X = z_rm 2 7 3422) (hK0 : z_K G a0 = 104) (h : f_X4_init G D a0 = some (G1, D1)) : z_V q X 1 (z_F q X none G1 D1 7 3422) 0 0 G D 0 [(0, .ref (z_w q a0))] [] := by
  unfold f_X4_init at h
  refine v_aload_n o dX4_init_0 rfl 0 rfl ?_
  refine v_objInit o ln_1_179 ob_inst ob_code hX (by decide) (Nat.le_of_ble_eq_true rfl) dX4_init_1 ?_
  refine v_aload_n o dX4_init_4 rfl 0 rfl ?_
  refine nw_5 o ln_1_180 hX (by decide) dX4_init_5 ?_
  replace h := z_let_of h
  generalize (z_nG G 105 0) = G1 at h ⊢
  refine v_dup o dX4_init_8 rfl ?_
  refine v_bipush o (75 : Int32) dX4_init_9 (by decide) ?_
  obtain ⟨n2, h⟩ := z_gK_of h
  obtain ⟨p4, he3, h⟩ := z_bind h
  refine v_callI o yw_X5_init rfl ln_1_181 wi_X5_init hX (by decide) (As := [.int (75 : Int32)]) rfl rfl (Nat.le_of_ble_eq_true rfl) (e_X5_init n2 he3) dX4_init_11 ?_
  obtain ⟨n5, h⟩ := z_gK_of h
  obtain ⟨n6, h⟩ := z_gK_of h
  refine pt_4_0 o (by rw [n5]; decide) n6 ln_1_182 rfl rfl dX4_init_14 ?_
  replace h := z_let_of h
  generalize (z_sR p4.1 400 a0 (z_Z G)) = G7 at h ⊢
  refine v_aload_n o dX4_init_17 rfl 0 rfl ?_
  refine v_iconst o (4 : Int32) dX4_init_18 (by decide) ?_
  refine v_newI o 4 ac_int (by decide) (by decide) (by decide) hX (by decide) dX4_init_19 ?_
  replace h := z_let_of h
  generalize (z_nG G7 1 ((4 : Int32)).toNatClampNeg) = G8 at h ⊢
  obtain ⟨n9, h⟩ := z_gK_of h
  obtain ⟨n10, h⟩ := z_gK_of h
  refine pt_4_7 o (by rw [n9]; decide) n10 ln_1_196 rfl rfl dX4_init_21 ?_
  replace h := z_let_of h
  generalize (z_sR G8 407 a0 (z_Z G7)) = G11 at h ⊢
  refine v_aload_n o dX4_init_24 rfl 0 rfl ?_
  refine v_iconst o (4 : Int32) dX4_init_25 (by decide) ?_
  refine v_newI o 4 ac_int (by decide) (by decide) (by decide) hX (by decide) dX4_init_26 ?_
  replace h := z_let_of h
  generalize (z_nG G11 1 ((4 : Int32)).toNatClampNeg) = G12 at h ⊢
  obtain ⟨n13, h⟩ := z_gK_of h
  obtain ⟨n14, h⟩ := z_gK_of h
  refine pt_4_8 o (by rw [n13]; decide) n14 ln_1_198 rfl rfl dX4_init_28 ?_
  replace h := z_let_of h
  generalize (z_sR G12 408 a0 (z_Z G11)) = G15 at h ⊢
  refine v_aload_n o dX4_init_31 rfl 0 rfl ?_
  refine v_iconst o (4 : Int32) dX4_init_32 (by decide) ?_
  refine v_newI o 4 ac_int (by decide) (by decide) (by decide) hX (by decide) dX4_init_33 ?_
  replace h := z_let_of h
  generalize (z_nG G15 1 ((4 : Int32)).toNatClampNeg) = G16 at h ⊢
  obtain ⟨n17, h⟩ := z_gK_of h
  obtain ⟨n18, h⟩ := z_gK_of h
  refine pt_4_12 o (by rw [n17]; decide) n18 ln_1_206 rfl rfl dX4_init_35 ?_
  replace h := z_let_of h
  generalize (z_sR G16 412 a0 (z_Z G15)) = G19 at h ⊢
  refine v_aload_n o dX4_init_38 rfl 0 rfl ?_
  refine v_iconst o (4 : Int32) dX4_init_39 (by decide) ?_
  refine v_newI o 4 ac_int (by decide) (by decide) (by decide) hX (by decide) dX4_init_40 ?_
  replace h := z_let_of h
  generalize (z_nG G19 1 ((4 : Int32)).toNatClampNeg) = G20 at h ⊢
  obtain ⟨n21, h⟩ := z_gK_of h
  obtain ⟨n22, h⟩ := z_gK_of h
  refine pt_4_13 o (by rw [n21]; decide) n22 ln_1_208 rfl rfl dX4_init_42 ?_
  replace h := z_let_of h
  generalize (z_sR G20 413 a0 (z_Z G19)) = G23 at h ⊢
  refine v_aload_n o dX4_init_45 rfl 0 rfl ?_
  refine v_iconst o (4 : Int32) dX4_init_46 (by decide) ?_
  refine v_newJ o 4 ac_long (by decide) (by decide) (by decide) hX (by decide) dX4_init_47 ?_
  replace h := z_let_of h
  generalize (z_nG G23 2 ((4 : Int32)).toNatClampNeg) = G24 at h ⊢
  obtain ⟨n25, h⟩ := z_gK_of h
  obtain ⟨n26, h⟩ := z_gK_of h
  refine pt_4_14 o (by rw [n25]; decide) n26 ln_1_210 rfl rfl dX4_init_49 ?_
  replace h := z_let_of h
  generalize (z_sR G24 414 a0 (z_Z G23)) = G27 at h ⊢
  obtain ⟨hr, hs⟩ := Prod.mk.inj (z_some h)
  subst hr
  subst hs
  refine v_widen (k1 := 7) (n1 := 3422) (by decide) (by decide) ?_
  exact v_return o dX4_init_52
theorem e_X4_init {q : z_Q} {l : Launch} {G : z_G} {D : z_D} {a0 : Nat} {G1 : z_G} {D1 : z_D} (hK0 : z_K G a0 = 104) (h : f_X4_init G D a0 = some (G1, D1)) : z_E q l yX4_init cX4_init 1 none 2 7 3422 [.ref (z_w q a0)] G D none G1 D1 :=
  z_E.of (by decide) (Nat.le_of_ble_eq_true rfl) (fun X hX _ o => b_X4_init o hX hK0 h)
def f_X0_init (G : z_G) (D : z_D) (a0 : Nat) (a1 : Nat) (a2 : Int32) (a3 : Int32) : Option (z_G × z_D) :=
  z_let (z_nG G 104 0) (fun G1 => (z_gK G1 104 (z_Z G) ((f_X4_init G1 (z_nD D (z_Z G)) (z_Z G)).bind (fun p4 => (z_gK p4.1 104 (z_Z G) (z_gK p4.1 100 a0 (z_let (z_sR p4.1 3 a0 (z_Z G)) (fun G7 => (z_gK G7 100 a0 (z_gK G7 101 a1 (z_let (z_sR G7 0 a0 a1) (fun G10 => (z_gK G10 100 a0 ((some (G10, (z_sI (z_sI (z_sI (z_sI p4.2 4 a0 (0 : Int32)) 5 a0 (0 : Int32)) 1 a0 a2) 2 a0 a3)))))))))))))))))
set_option maxRecDepth 100000 in
set_option maxHeartbeats 4000000 in
theorem b_X0_init {q : z_Q} {X : z_X} {G : z_G} {D : z_D} {a0 : Nat} {a1 : Nat} {a2 : Int32} {a3 : Int32} {G1 : z_G} {D1 : z_D} (o : z_O q X cX0_init 4 "FlashTrust$Entry" "<init>" none) (hX : x_R X = z_rm 3 8 3437) (hK0 : z_K G a0 = 100) (h : f_X0_init G D a0 a1 a2 a3 = some (G1, D1)) : z_V q X 4 (z_F q X none G1 D1 8 3437) 0 0 G D 0 [(0, .ref (z_w q a0)), (1, .ref (z_w q a1)), (2, .int a2), (3, .int a3)] [] := by
  unfold f_X0_init at h
  refine v_aload_n o dX0_init_0 rfl 0 rfl ?_
  refine v_objInit o ln_2_10 ob_inst ob_code hX (by decide) (Nat.le_of_ble_eq_true rfl) dX0_init_1 ?_
  refine v_aload_n o dX0_init_4 rfl 0 rfl ?_
  refine nw_4 o ln_2_11 hX (by decide) dX0_init_5 ?_
  replace h := z_let_of h
  generalize (z_nG G 104 0) = G1 at h ⊢
  refine v_dup o dX0_init_8 rfl ?_
  obtain ⟨n2, h⟩ := z_gK_of h
  obtain ⟨p4, he3, h⟩ := z_bind h
  refine v_callIN o yw_X4_init rfl (List.mem_of_getElem? (i := 5) rfl) wi_X4_init hX (by decide) (As := []) rfl rfl (Nat.le_of_ble_eq_true rfl) (e_X4_init n2 he3) dX0_init_9 ?_
  obtain ⟨n5, h⟩ := z_gK_of h
  obtain ⟨n6, h⟩ := z_gK_of h
  refine pt_0_3 o (by rw [n5]; decide) n6 ln_2_17 rfl rfl dX0_init_12 ?_
  replace h := z_let_of h
  generalize (z_sR p4.1 3 a0 (z_Z G)) = G7 at h ⊢
  refine v_aload_n o dX0_init_15 rfl 0 rfl ?_
  refine v_iconst o (0 : Int32) dX0_init_16 (by decide) ?_
  obtain ⟨n8, h⟩ := z_gK_of h
  refine pt_0_4 o n8 ln_2_19 dX0_init_17 ?_
  refine v_aload_n o dX0_init_20 rfl 0 rfl ?_
  refine v_iconst o (0 : Int32) dX0_init_21 (by decide) ?_
  refine pt_0_5 o n8 ln_2_21 (by decide) dX0_init_22 ?_
  refine v_aload_n o dX0_init_25 rfl 0 rfl ?_
  refine v_aload_n o dX0_init_26 rfl 1 rfl ?_
  obtain ⟨n9, h⟩ := z_gK_of h
  refine pt_0_0 o (by rw [n9]; decide) n8 ln_2_13 rfl rfl dX0_init_27 ?_
  replace h := z_let_of h
  generalize (z_sR G7 0 a0 a1) = G10 at h ⊢
  refine v_aload_n o dX0_init_30 rfl 0 rfl ?_
  refine v_iload_n o dX0_init_31 rfl 2 rfl ?_
  obtain ⟨n11, h⟩ := z_gK_of h
  refine pt_0_1 o n11 ln_2_14 rfl rfl dX0_init_32 ?_
  refine v_aload_n o dX0_init_35 rfl 0 rfl ?_
  refine v_iload_n o dX0_init_36 rfl 3 rfl ?_
  refine pt_0_2 o n11 ln_2_15 rfl rfl dX0_init_37 ?_
  obtain ⟨hr, hs⟩ := Prod.mk.inj (z_some h)
  subst hr
  subst hs
  refine v_widen (k1 := 8) (n1 := 3437) (by decide) (by decide) ?_
  exact v_return o dX0_init_40
theorem e_X0_init {q : z_Q} {l : Launch} {G : z_G} {D : z_D} {a0 : Nat} {a1 : Nat} {a2 : Int32} {a3 : Int32} {G1 : z_G} {D1 : z_D} (hK0 : z_K G a0 = 100) (h : f_X0_init G D a0 a1 a2 a3 = some (G1, D1)) : z_E q l yX0_init cX0_init 4 none 3 8 3437 [.ref (z_w q a0), .ref (z_w q a1), .int a2, .int a3] G D none G1 D1 :=
  z_E.of (by decide) (Nat.le_of_ble_eq_true rfl) (fun X hX _ o => b_X0_init o hX hK0 h)
def p_X1_init_45 (q : z_Q) (X : z_X) (Q : State → Prop) (G : z_G) (a0 : Nat) (a1 : Int32) : (z_D × Int32) → Prop := (fun v => z_V q X 4 Q 2 3402 G v.1 45 [(0, .ref (z_w q a0)), (1, .int a1), (2, .int v.2)] [])
def x_X1_init_45 (q : z_Q) (X : z_X) (Q : State → Prop) (G : z_G) (a0 : Nat) (a1 : Int32) : z_D → Prop := (fun v => z_V q X 4 Q 2 3402 G v 68 [(0, .ref (z_w q a0)), (1, .int a1)] [])
def k_X1_init_45 (q : z_Q) (X : z_X) (Q : State → Prop) (G : z_G) (a0 : Nat) (a1 : Int32) : (z_D × Int32) ⊕ z_D → Prop := Sum.elim (p_X1_init_45 q X Q G a0 a1) (x_X1_init_45 q X Q G a0 a1)
def c_X1_init_45 (G : z_G) (D : z_D) (a0 : Nat) (a1 : Int32) (a2 : Int32) : Option ((z_D × Int32) ⊕ z_D) :=
  (if (3328 : Int32) ≤ a2 then (some (.inr D)) else (z_gK G 105 (z_R G 100 a0) ((f_X5_add G D (z_R G 100 a0) (255 : Int32)).bind (fun D12 => ((some (.inl (D12, (a2 + (1 : Int32))))))))))
set_option maxRecDepth 100000 in
set_option maxHeartbeats 4000000 in
theorem tc_X1_init_45 {q : z_Q} {X : z_X} {G : z_G} {D : z_D} {Q : State → Prop} {a0 : Nat} {a1 : Int32} {a2 : Int32} (o : z_O q X cX1_init 4 "FlashTrust$Flash" "<init>" none) (hX : x_R X = z_rm 2 2 3402) (hK0 : z_K G a0 = 101) {ρ : (z_D × Int32) ⊕ z_D} (h : c_X1_init_45 G D a0 a1 a2 = some ρ) (hk : k_X1_init_45 q X Q G a0 a1 ρ) : z_V q X 4 Q 2 3402 G D 45 [(0, .ref (z_w q a0)), (1, .int a1), (2, .int a2)] [] := by
  unfold c_X1_init_45 at h
  refine v_iload_n o dX1_init_45 rfl 2 rfl ?_
  refine v_sipush o (3328 : Int32) dX1_init_46 (by decide) ?_
  refine v_icmp_ge o 68 dX1_init_49 (by decide) (fun c9 => ?_) (fun c9 => ?_)
  · replace h := z_ip c9 h
    obtain rfl := z_some h
    refine v_sub [0, 1] rfl ?_
    exact hk
  · replace h := z_in c9 h
    refine v_aload_n o dX1_init_52 rfl 0 rfl ?_
    obtain ⟨n10, h⟩ := z_gK_of h
    refine gt_1_0 o hK0 ln_1_144 (by rw [n10]; decide) dX1_init_53 ?_
    refine v_sipush o (255 : Int32) dX1_init_56 (by decide) ?_
    obtain ⟨D12, he11, h⟩ := z_bind h
    refine v_callV o yw_X5_add ln_1_133 wi_X5_add ws_X5_add hX (by decide) 5 rfl n10 (As := [.int (255 : Int32)]) rfl rfl (Nat.le_of_ble_eq_true rfl) (e_X5_add n10 he11) dX1_init_59 ?_
    refine v_iinc o (a2 + (1 : Int32)) [(2, .int (a2 + (1 : Int32))), (0, .ref (z_w q a0)), (1, .int a1)] dX1_init_62 2 rfl rfl (by decide) rfl ?_
    refine v_goto o 45 dX1_init_65 (by decide) ?_
    obtain rfl := z_some h
    refine v_sub [1, 2, 0] rfl ?_
    exact hk
def p_X1_init_75 (q : z_Q) (X : z_X) (Q : State → Prop) (G : z_G) (a0 : Nat) (a1 : Int32) (a2 : Int32) : (z_D × Int32) → Prop := (fun v => z_V q X 4 Q 2 3402 G v.1 75 [(0, .ref (z_w q a0)), (1, .int a1), (2, .int a2), (3, .int v.2)] [])
def x_X1_init_75 (q : z_Q) (X : z_X) (Q : State → Prop) (G : z_G) (a0 : Nat) (a1 : Int32) (a2 : Int32) : z_D → Prop := (fun v => z_V q X 4 Q 2 3402 G v 102 [] [])
def k_X1_init_75 (q : z_Q) (X : z_X) (Q : State → Prop) (G : z_G) (a0 : Nat) (a1 : Int32) (a2 : Int32) : (z_D × Int32) ⊕ z_D → Prop := Sum.elim (p_X1_init_75 q X Q G a0 a1 a2) (x_X1_init_75 q X Q G a0 a1 a2)
def c_X1_init_75 (G : z_G) (D : z_D) (a0 : Nat) (a1 : Int32) (a2 : Int32) (a3 : Int32) : Option ((z_D × Int32) ⊕ z_D) :=
  (if a1 ≤ a3 then (some (.inr D)) else (z_gK G 105 (z_R G 100 a0) ((f_X5_set G D (z_R G 100 a0) (a2 + a3) (((7 : Int32) * a3) + (3 : Int32))).bind (fun D20 => ((some (.inl (D20, (a3 + (1 : Int32))))))))))
set_option maxRecDepth 100000 in
set_option maxHeartbeats 4000000 in
theorem tc_X1_init_75 {q : z_Q} {X : z_X} {G : z_G} {D : z_D} {Q : State → Prop} {a0 : Nat} {a1 : Int32} {a2 : Int32} {a3 : Int32} (o : z_O q X cX1_init 4 "FlashTrust$Flash" "<init>" none) (hX : x_R X = z_rm 2 2 3402) (hK0 : z_K G a0 = 101) {ρ : (z_D × Int32) ⊕ z_D} (h : c_X1_init_75 G D a0 a1 a2 a3 = some ρ) (hk : k_X1_init_75 q X Q G a0 a1 a2 ρ) : z_V q X 4 Q 2 3402 G D 75 [(0, .ref (z_w q a0)), (1, .int a1), (2, .int a2), (3, .int a3)] [] := by
  unfold c_X1_init_75 at h
  refine v_iload_n o dX1_init_75 rfl 3 rfl ?_
  refine v_iload_n o dX1_init_76 rfl 1 rfl ?_
  refine v_icmp_ge o 102 dX1_init_77 (by decide) (fun c17 => ?_) (fun c17 => ?_)
  · replace h := z_ip c17 h
    obtain rfl := z_some h
    refine v_sub [] rfl ?_
    exact hk
  · replace h := z_in c17 h
    refine v_aload_n o dX1_init_80 rfl 0 rfl ?_
    obtain ⟨n18, h⟩ := z_gK_of h
    refine gt_1_0 o hK0 ln_1_144 (by rw [n18]; decide) dX1_init_81 ?_
    refine v_iload_n o dX1_init_84 rfl 2 rfl ?_
    refine v_iload_n o dX1_init_85 rfl 3 rfl ?_
    refine v_iadd o dX1_init_86 ?_
    refine v_bipush o (7 : Int32) dX1_init_87 (by decide) ?_
    refine v_iload_n o dX1_init_89 rfl 3 rfl ?_
    refine v_imul o dX1_init_90 ?_
    refine v_iconst o (3 : Int32) dX1_init_91 (by decide) ?_
    refine v_iadd o dX1_init_92 ?_
    obtain ⟨D20, he19, h⟩ := z_bind h
    refine v_callV o yw_X5_set ln_1_140 wi_X5_set ws_X5_set hX (by decide) 5 rfl n18 (As := [.int (a2 + a3), .int (((7 : Int32) * a3) + (3 : Int32))]) rfl rfl (Nat.le_of_ble_eq_true rfl) (e_X5_set n18 he19) dX1_init_93 ?_
    refine v_iinc o (a3 + (1 : Int32)) [(3, .int (a3 + (1 : Int32))), (0, .ref (z_w q a0)), (1, .int a1), (2, .int a2)] dX1_init_96 3 rfl rfl (by decide) rfl ?_
    refine v_goto o 75 dX1_init_99 (by decide) ?_
    obtain rfl := z_some h
    refine v_sub [1, 2, 3, 0] rfl ?_
    exact hk
def f_X1_init (G : z_G) (D : z_D) (a0 : Nat) (a1 : Int32) : Option (z_G × z_D) :=
  z_let (z_nG G 105 0) (fun G1 => (z_gK G1 105 (z_Z G) ((f_X5_init G1 (z_nD D (z_Z G)) (z_Z G) (3328 : Int32)).bind (fun p4 => (z_gK p4.1 105 (z_Z G) (z_gK p4.1 101 a0 (z_let (z_sR p4.1 100 a0 (z_Z G)) (fun G7 => (z_gK G7 101 a0 (((z_loop (fun v => c_X1_init_45 G7 v.1 a0 a1 v.2) 4000 ((z_sI (z_sI (z_sI (z_sI (z_sI p4.2 101 a0 (0 : Int32)) 102 a0 (0 : Int32)) 103 a0 (-1 : Int32)) 104 a0 (0 : Int32)) 105 a0 (0 : Int32)), (0 : Int32))).bind (fun e13 => (f_X1_slotStart G7 e13 (0 : Int32)).bind (fun r16 => (((z_loop (fun v => c_X1_init_75 G7 v.1 a0 a1 r16 v.2) 4000 (e13, (0 : Int32))).bind (fun e21 => (some (G7, e21))))))))))))))))))
set_option maxRecDepth 100000 in
set_option maxHeartbeats 4000000 in
theorem b_X1_init {q : z_Q} {X : z_X} {G : z_G} {D : z_D} {a0 : Nat} {a1 : Int32} {G1 : z_G} {D1 : z_D} (o : z_O q X cX1_init 4 "FlashTrust$Flash" "<init>" none) (hX : x_R X = z_rm 2 2 3402) (hK0 : z_K G a0 = 101) (h : f_X1_init G D a0 a1 = some (G1, D1)) : z_V q X 4 (z_F q X none G1 D1 2 3402) 0 0 G D 0 [(0, .ref (z_w q a0)), (1, .int a1)] [] := by
  unfold f_X1_init at h
  refine v_aload_n o dX1_init_0 rfl 0 rfl ?_
  refine v_objInit o ln_1_130 ob_inst ob_code hX (by decide) (Nat.le_of_ble_eq_true rfl) dX1_init_1 ?_
  refine v_aload_n o dX1_init_4 rfl 0 rfl ?_
  refine nw_5 o ln_1_131 hX (by decide) dX1_init_5 ?_
  replace h := z_let_of h
  generalize (z_nG G 105 0) = G1 at h ⊢
  refine v_dup o dX1_init_8 rfl ?_
  refine v_sipush o (3328 : Int32) dX1_init_9 (by decide) ?_
  obtain ⟨n2, h⟩ := z_gK_of h
  obtain ⟨p4, he3, h⟩ := z_bind h
  refine v_callI o yw_X5_init rfl ln_1_132 wi_X5_init hX (by decide) (As := [.int (3328 : Int32)]) rfl rfl (Nat.le_of_ble_eq_true rfl) (e_X5_init n2 he3) dX1_init_12 ?_
  obtain ⟨n5, h⟩ := z_gK_of h
  obtain ⟨n6, h⟩ := z_gK_of h
  refine pt_1_0 o (by rw [n5]; decide) n6 ln_1_144 rfl rfl dX1_init_15 ?_
  replace h := z_let_of h
  generalize (z_sR p4.1 100 a0 (z_Z G)) = G7 at h ⊢
  refine v_aload_n o dX1_init_18 rfl 0 rfl ?_
  refine v_iconst o (0 : Int32) dX1_init_19 (by decide) ?_
  obtain ⟨n8, h⟩ := z_gK_of h
  refine pt_1_1 o n8 ln_1_148 dX1_init_20 ?_
  refine v_aload_n o dX1_init_23 rfl 0 rfl ?_
  refine v_iconst o (0 : Int32) dX1_init_24 (by decide) ?_
  refine pt_1_2 o n8 ln_1_150 dX1_init_25 ?_
  refine v_aload_n o dX1_init_28 rfl 0 rfl ?_
  refine v_iconst o (-1 : Int32) dX1_init_29 (by decide) ?_
  refine pt_1_3 o n8 ln_1_152 dX1_init_30 ?_
  refine v_aload_n o dX1_init_33 rfl 0 rfl ?_
  refine v_iconst o (0 : Int32) dX1_init_34 (by decide) ?_
  refine pt_1_4 o n8 ln_1_154 dX1_init_35 ?_
  refine v_aload_n o dX1_init_38 rfl 0 rfl ?_
  refine v_iconst o (0 : Int32) dX1_init_39 (by decide) ?_
  refine pt_1_5 o n8 ln_1_155 (by decide) dX1_init_40 ?_
  refine v_iconst o (0 : Int32) dX1_init_43 (by decide) ?_
  refine v_istore_n o [(2, .int (0 : Int32)), (0, .ref (z_w q a0)), (1, .int a1)] dX1_init_44 rfl (by decide) rfl ?_
  refine v_sub [1, 2, 0] rfl ?_
  obtain ⟨e13, he14, h⟩ := z_bind h
  refine z_loopV (P := p_X1_init_45 q X _ G7 a0 a1) (E := x_X1_init_45 q X _ G7 a0 a1) (fun v ρ hb hk => tc_X1_init_45 (D := v.1) (a0 := a0) (a1 := a1) (a2 := v.2) o hX n8 hb hk) 4000 _ e13 he14 ?_
  show z_V q X 4 _ _ _ G7 e13 68 [(0, .ref (z_w q a0)), (1, .int a1)] []
  refine v_iconst o (0 : Int32) dX1_init_68 (by decide) ?_
  obtain ⟨r16, he15, h⟩ := z_bind h
  refine v_callS o yw_X1_slotStart ln_1_137 ws_X1_slotStart hX (by decide) (As := [.int (0 : Int32)]) rfl rfl (Nat.le_of_ble_eq_true rfl) (e_X1_slotStart he15) dX1_init_69 ?_
  refine v_istore_n o [(2, .int r16), (0, .ref (z_w q a0)), (1, .int a1)] dX1_init_72 rfl (by decide) rfl ?_
  refine v_iconst o (0 : Int32) dX1_init_73 (by decide) ?_
  refine v_istore_n o [(3, .int (0 : Int32)), (2, .int r16), (0, .ref (z_w q a0)), (1, .int a1)] dX1_init_74 rfl (by decide) rfl ?_
  refine v_sub [2, 3, 1, 0] rfl ?_
  obtain ⟨e21, he22, h⟩ := z_bind h
  refine z_loopV (P := p_X1_init_75 q X _ G7 a0 a1 r16) (E := x_X1_init_75 q X _ G7 a0 a1 r16) (fun v ρ hb hk => tc_X1_init_75 (D := v.1) (a0 := a0) (a1 := a1) (a2 := r16) (a3 := v.2) o hX n8 hb hk) 4000 _ e21 he22 ?_
  show z_V q X 4 _ _ _ G7 e21 102 [] []
  obtain ⟨hr, hs⟩ := Prod.mk.inj (z_some h)
  subst hr
  subst hs
  refine v_widen (k1 := 2) (n1 := 3402) (by decide) (by decide) ?_
  exact v_return o dX1_init_102
theorem e_X1_init {q : z_Q} {l : Launch} {G : z_G} {D : z_D} {a0 : Nat} {a1 : Int32} {G1 : z_G} {D1 : z_D} (hK0 : z_K G a0 = 101) (h : f_X1_init G D a0 a1 = some (G1, D1)) : z_E q l yX1_init cX1_init 4 none 2 2 3402 [.ref (z_w q a0), .int a1] G D none G1 D1 :=
  z_E.of (by decide) (Nat.le_of_ble_eq_true rfl) (fun X hX _ o => b_X1_init o hX hK0 h)
def f_X2_init (G : z_G) (D : z_D) (a0 : Nat) (a1 : Nat) (a2 : Nat) : Option (z_G × z_D) :=
  z_gK G 101 a1 (z_let (z_sR G 200 a0 a1) (fun G2 => (z_gK G2 108 a2 (z_gK G2 102 a0 (z_let (z_sR G2 201 a0 a2) (fun G5 => ((some (G5, (z_sI (z_sI D 202 a0 (0 : Int32)) 203 a0 (0 : Int32)))))))))))
set_option maxRecDepth 100000 in
set_option maxHeartbeats 4000000 in
theorem b_X2_init {q : z_Q} {X : z_X} {G : z_G} {D : z_D} {a0 : Nat} {a1 : Nat} {a2 : Nat} {G1 : z_G} {D1 : z_D} (o : z_O q X cX2_init 3 "FlashTrust$Loader" "<init>" none) (hX : x_R X = z_rm 1 0 0) (hK0 : z_K G a0 = 102) (h : f_X2_init G D a0 a1 a2 = some (G1, D1)) : z_V q X 3 (z_F q X none G1 D1 0 0) 0 0 G D 0 [(0, .ref (z_w q a0)), (1, .ref (z_w q a1)), (2, .ref (z_w q a2))] [] := by
  unfold f_X2_init at h
  refine v_aload_n o dX2_init_0 rfl 0 rfl ?_
  refine v_objInit o ln_2_206 ob_inst ob_code hX (by decide) (Nat.le_of_ble_eq_true rfl) dX2_init_1 ?_
  refine v_aload_n o dX2_init_4 rfl 0 rfl ?_
  refine v_iconst o (0 : Int32) dX2_init_5 (by decide) ?_
  refine pt_2_2 o hK0 ln_2_209 dX2_init_6 ?_
  refine v_aload_n o dX2_init_9 rfl 0 rfl ?_
  refine v_iconst o (0 : Int32) dX2_init_10 (by decide) ?_
  refine pt_2_3 o hK0 ln_2_211 (by decide) dX2_init_11 ?_
  refine v_aload_n o dX2_init_14 rfl 0 rfl ?_
  refine v_aload_n o dX2_init_15 rfl 1 rfl ?_
  obtain ⟨n1, h⟩ := z_gK_of h
  refine pt_2_0 o (by rw [n1]; decide) hK0 ln_2_207 rfl rfl dX2_init_16 ?_
  replace h := z_let_of h
  generalize (z_sR G 200 a0 a1) = G2 at h ⊢
  refine v_aload_n o dX2_init_19 rfl 0 rfl ?_
  refine v_aload_n o dX2_init_20 rfl 2 rfl ?_
  obtain ⟨n3, h⟩ := z_gK_of h
  obtain ⟨n4, h⟩ := z_gK_of h
  refine pt_2_1 o (by rw [n3]; decide) n4 ln_2_208 rfl rfl dX2_init_21 ?_
  replace h := z_let_of h
  generalize (z_sR G2 201 a0 a2) = G5 at h ⊢
  obtain ⟨hr, hs⟩ := Prod.mk.inj (z_some h)
  subst hr
  subst hs
  refine v_widen (k1 := 0) (n1 := 0) (by decide) (by decide) ?_
  exact v_return o dX2_init_24
theorem e_X2_init {q : z_Q} {l : Launch} {G : z_G} {D : z_D} {a0 : Nat} {a1 : Nat} {a2 : Nat} {G1 : z_G} {D1 : z_D} (hK0 : z_K G a0 = 102) (h : f_X2_init G D a0 a1 a2 = some (G1, D1)) : z_E q l yX2_init cX2_init 3 none 1 0 0 [.ref (z_w q a0), .ref (z_w q a1), .ref (z_w q a2)] G D none G1 D1 :=
  z_E.of (by decide) (Nat.le_of_ble_eq_true rfl) (fun X hX _ o => b_X2_init o hX hK0 h)
def f_X3_init (G : z_G) (D : z_D) (a0 : Nat) (a1 : Nat) : Option (z_G × z_D) :=
  z_let (z_nG G 1 4) (fun G1 => (z_gK G1 1 (z_Z G) (z_gK G1 103 a0 (z_let (z_sR G1 301 a0 (z_Z G)) (fun G4 => (z_let (z_nG G4 1 4) (fun G5 => (z_gK G5 1 (z_Z G4) (z_gK G5 103 a0 (z_let (z_sR G5 302 a0 (z_Z G4)) (fun G8 => (z_gK G8 103 a0 (z_let (z_nG G8 1 ((4 : Int32)).toNatClampNeg) (fun G10 => (z_gK G10 1 (z_Z G8) (z_gK G10 103 a0 (z_let (z_sR G10 304 a0 (z_Z G8)) (fun G13 => (z_let (z_nG G13 1 ((4 : Int32)).toNatClampNeg) (fun G14 => (z_gK G14 1 (z_Z G13) (z_gK G14 103 a0 (z_let (z_sR G14 305 a0 (z_Z G13)) (fun G17 => (z_let (z_nG G17 1 ((4 : Int32)).toNatClampNeg) (fun G18 => (z_gK G18 1 (z_Z G17) (z_gK G18 103 a0 (z_let (z_sR G18 306 a0 (z_Z G17)) (fun G21 => (z_let (z_nG G21 2 ((4 : Int32)).toNatClampNeg) (fun G22 => (z_gK G22 2 (z_Z G21) (z_gK G22 103 a0 (z_let (z_sR G22 307 a0 (z_Z G21)) (fun G25 => (z_let (z_nG G25 105 0) (fun G26 => (z_gK G26 105 (z_Z G25) ((f_X5_init G26 (z_nD (z_nD (z_nD (z_nD (z_nD (z_sI (z_fD (z_nD (z_fD (z_nD D (z_Z G)) (z_Z G) z_k1) (z_Z G4)) (z_Z G4) z_k2) 303 a0 (0 : Int32)) (z_Z G8)) (z_Z G13)) (z_Z G17)) (z_Z G21)) (z_Z G25)) (z_Z G25) (1024 : Int32)).bind (fun p29 => (z_gK p29.1 105 (z_Z G25) (z_gK p29.1 103 a0 (z_let (z_sR p29.1 308 a0 (z_Z G25)) (fun G32 => (z_let (z_nG G32 105 0) (fun G33 => (z_gK G33 105 (z_Z G32) ((f_X5_init G33 (z_nD p29.2 (z_Z G32)) (z_Z G32) (55 : Int32)).bind (fun p36 => (z_gK p36.1 105 (z_Z G32) (z_gK p36.1 103 a0 (z_let (z_sR p36.1 309 a0 (z_Z G32)) (fun G39 => (z_gK G39 103 a0 (z_let (z_nG G39 1 ((4 : Int32)).toNatClampNeg) (fun G41 => (z_gA G41 1 (z_Z G39) (0 : Int32) (z_gA G41 1 (z_Z G39) (1 : Int32) (z_gA G41 1 (z_Z G39) (2 : Int32) (z_gA G41 1 (z_Z G39) (3 : Int32) (z_gK G41 1 (z_Z G39) (z_gK G41 103 a0 (z_let (z_sR G41 312 a0 (z_Z G39)) (fun G52 => (z_let (z_nG G52 2 ((4 : Int32)).toNatClampNeg) (fun G53 => (z_gK G53 2 (z_Z G52) (z_gK G53 103 a0 (z_let (z_sR G53 313 a0 (z_Z G52)) (fun G56 => (z_gK G56 107 a1 (z_gK G56 103 a0 (z_let (z_sR G56 300 a0 a1) (fun G59 => ((some (G59, (z_nD (z_sU (z_sU (z_sU (z_sU (z_nD (z_sI (z_sI p36.2 310 a0 (-1 : Int32)) 311 a0 (0 : Int32)) (z_Z G39)) (z_Z G39) ((0 : Int32)).toNatClampNeg (1 : Int32)) (z_Z G39) ((1 : Int32)).toNatClampNeg (1 : Int32)) (z_Z G39) ((2 : Int32)).toNatClampNeg (1 : Int32)) (z_Z G39) ((3 : Int32)).toNatClampNeg (1 : Int32)) (z_Z G52))))))))))))))))))))))))))))))))))))))))))))))))))))))))))))))))))))))))))))))))
set_option maxRecDepth 100000 in
set_option maxHeartbeats 4000000 in
theorem b_X3_init {q : z_Q} {X : z_X} {G : z_G} {D : z_D} {a0 : Nat} {a1 : Nat} {G1 : z_G} {D1 : z_D} (o : z_O q X cX3_init 2 "FlashTrust$Maker" "<init>" none) (hX : x_R X = z_rm 2 12 6836) (hK0 : z_K G a0 = 103) (h : f_X3_init G D a0 a1 = some (G1, D1)) : z_V q X 2 (z_F q X none G1 D1 12 6836) 0 0 G D 0 [(0, .ref (z_w q a0)), (1, .ref (z_w q a1))] [] := by
  unfold f_X3_init at h
  refine v_aload_n o dX3_init_0 rfl 0 rfl ?_
  refine v_objInit o ln_1_68 ob_inst ob_code hX (by decide) (Nat.le_of_ble_eq_true rfl) dX3_init_1 ?_
  refine v_aload_n o dX3_init_4 rfl 0 rfl ?_
  refine z_gets o o.st.2.2.1.1 (List.mem_of_getElem? (i := 1) rfl) dX3_init_5 ?_
  refine z_clone o o.st.2.2.1.2 ln_1_71 cl_same cl_nat cl_inst cl_sel (List.mem_of_getElem? (i := 2) rfl) hX (by decide) (Nat.le_of_ble_eq_true rfl) dX3_init_8 ?_
  replace h := z_let_of h
  generalize (z_nG G 1 4) = G1 at h ⊢
  obtain ⟨n2, h⟩ := z_gK_of h
  refine v_castI o n2 ln_1_77 dX3_init_11 ?_
  obtain ⟨n3, h⟩ := z_gK_of h
  refine pt_3_1 o (by rw [n2]; decide) n3 ln_1_83 rfl rfl dX3_init_14 ?_
  replace h := z_let_of h
  generalize (z_sR G1 301 a0 (z_Z G)) = G4 at h ⊢
  refine v_aload_n o dX3_init_17 rfl 0 rfl ?_
  refine z_gets o o.st.2.2.2.1.1 (List.mem_of_getElem? (i := 3) rfl) dX3_init_18 ?_
  refine z_clone o o.st.2.2.2.1.2 ln_1_71 cl_same cl_nat cl_inst cl_sel (List.mem_of_getElem? (i := 2) rfl) hX (by decide) (Nat.le_of_ble_eq_true rfl) dX3_init_21 ?_
  replace h := z_let_of h
  generalize (z_nG G4 1 4) = G5 at h ⊢
  obtain ⟨n6, h⟩ := z_gK_of h
  refine v_castI o n6 ln_1_77 dX3_init_24 ?_
  obtain ⟨n7, h⟩ := z_gK_of h
  refine pt_3_2 o (by rw [n6]; decide) n7 ln_1_84 rfl rfl dX3_init_27 ?_
  replace h := z_let_of h
  generalize (z_sR G5 302 a0 (z_Z G4)) = G8 at h ⊢
  refine v_aload_n o dX3_init_30 rfl 0 rfl ?_
  refine v_iconst o (0 : Int32) dX3_init_31 (by decide) ?_
  obtain ⟨n9, h⟩ := z_gK_of h
  refine pt_3_3 o n9 ln_1_85 dX3_init_32 ?_
  refine v_aload_n o dX3_init_35 rfl 0 rfl ?_
  refine v_iconst o (4 : Int32) dX3_init_36 (by decide) ?_
  refine v_newI o 4 ac_int (by decide) (by decide) (by decide) hX (by decide) dX3_init_37 ?_
  replace h := z_let_of h
  generalize (z_nG G8 1 ((4 : Int32)).toNatClampNeg) = G10 at h ⊢
  obtain ⟨n11, h⟩ := z_gK_of h
  obtain ⟨n12, h⟩ := z_gK_of h
  refine pt_3_4 o (by rw [n11]; decide) n12 ln_1_86 rfl rfl dX3_init_39 ?_
  replace h := z_let_of h
  generalize (z_sR G10 304 a0 (z_Z G8)) = G13 at h ⊢
  refine v_aload_n o dX3_init_42 rfl 0 rfl ?_
  refine v_iconst o (4 : Int32) dX3_init_43 (by decide) ?_
  refine v_newI o 4 ac_int (by decide) (by decide) (by decide) hX (by decide) dX3_init_44 ?_
  replace h := z_let_of h
  generalize (z_nG G13 1 ((4 : Int32)).toNatClampNeg) = G14 at h ⊢
  obtain ⟨n15, h⟩ := z_gK_of h
  obtain ⟨n16, h⟩ := z_gK_of h
  refine pt_3_5 o (by rw [n15]; decide) n16 ln_1_87 rfl rfl dX3_init_46 ?_
  replace h := z_let_of h
  generalize (z_sR G14 305 a0 (z_Z G13)) = G17 at h ⊢
  refine v_aload_n o dX3_init_49 rfl 0 rfl ?_
  refine v_iconst o (4 : Int32) dX3_init_50 (by decide) ?_
  refine v_newI o 4 ac_int (by decide) (by decide) (by decide) hX (by decide) dX3_init_51 ?_
  replace h := z_let_of h
  generalize (z_nG G17 1 ((4 : Int32)).toNatClampNeg) = G18 at h ⊢
  obtain ⟨n19, h⟩ := z_gK_of h
  obtain ⟨n20, h⟩ := z_gK_of h
  refine pt_3_6 o (by rw [n19]; decide) n20 ln_1_88 rfl rfl dX3_init_53 ?_
  replace h := z_let_of h
  generalize (z_sR G18 306 a0 (z_Z G17)) = G21 at h ⊢
  refine v_aload_n o dX3_init_56 rfl 0 rfl ?_
  refine v_iconst o (4 : Int32) dX3_init_57 (by decide) ?_
  refine v_newJ o 4 ac_long (by decide) (by decide) (by decide) hX (by decide) dX3_init_58 ?_
  replace h := z_let_of h
  generalize (z_nG G21 2 ((4 : Int32)).toNatClampNeg) = G22 at h ⊢
  obtain ⟨n23, h⟩ := z_gK_of h
  obtain ⟨n24, h⟩ := z_gK_of h
  refine pt_3_7 o (by rw [n23]; decide) n24 ln_1_89 rfl rfl dX3_init_60 ?_
  replace h := z_let_of h
  generalize (z_sR G22 307 a0 (z_Z G21)) = G25 at h ⊢
  refine v_aload_n o dX3_init_63 rfl 0 rfl ?_
  refine nw_5 o ln_1_80 hX (by decide) dX3_init_64 ?_
  replace h := z_let_of h
  generalize (z_nG G25 105 0) = G26 at h ⊢
  refine v_dup o dX3_init_67 rfl ?_
  refine v_sipush o (1024 : Int32) dX3_init_68 (by decide) ?_
  obtain ⟨n27, h⟩ := z_gK_of h
  obtain ⟨p29, he28, h⟩ := z_bind h
  refine v_callI o yw_X5_init rfl ln_1_81 wi_X5_init hX (by decide) (As := [.int (1024 : Int32)]) rfl rfl (Nat.le_of_ble_eq_true rfl) (e_X5_init n27 he28) dX3_init_71 ?_
  obtain ⟨n30, h⟩ := z_gK_of h
  obtain ⟨n31, h⟩ := z_gK_of h
  refine pt_3_8 o (by rw [n30]; decide) n31 ln_1_90 rfl rfl dX3_init_74 ?_
  replace h := z_let_of h
  generalize (z_sR p29.1 308 a0 (z_Z G25)) = G32 at h ⊢
  refine v_aload_n o dX3_init_77 rfl 0 rfl ?_
  refine nw_5 o ln_1_80 hX (by decide) dX3_init_78 ?_
  replace h := z_let_of h
  generalize (z_nG G32 105 0) = G33 at h ⊢
  refine v_dup o dX3_init_81 rfl ?_
  refine v_bipush o (55 : Int32) dX3_init_82 (by decide) ?_
  obtain ⟨n34, h⟩ := z_gK_of h
  obtain ⟨p36, he35, h⟩ := z_bind h
  refine v_callI o yw_X5_init rfl ln_1_81 wi_X5_init hX (by decide) (As := [.int (55 : Int32)]) rfl rfl (Nat.le_of_ble_eq_true rfl) (e_X5_init n34 he35) dX3_init_84 ?_
  obtain ⟨n37, h⟩ := z_gK_of h
  obtain ⟨n38, h⟩ := z_gK_of h
  refine pt_3_9 o (by rw [n37]; decide) n38 ln_1_91 rfl rfl dX3_init_87 ?_
  replace h := z_let_of h
  generalize (z_sR p36.1 309 a0 (z_Z G32)) = G39 at h ⊢
  refine v_aload_n o dX3_init_90 rfl 0 rfl ?_
  refine v_iconst o (-1 : Int32) dX3_init_91 (by decide) ?_
  obtain ⟨n40, h⟩ := z_gK_of h
  refine pt_3_10 o n40 ln_1_92 dX3_init_92 ?_
  refine v_aload_n o dX3_init_95 rfl 0 rfl ?_
  refine v_iconst o (0 : Int32) dX3_init_96 (by decide) ?_
  refine pt_3_11 o n40 ln_1_93 dX3_init_97 ?_
  refine v_aload_n o dX3_init_100 rfl 0 rfl ?_
  refine v_iconst o (4 : Int32) dX3_init_101 (by decide) ?_
  refine v_newI o 4 ac_int (by decide) (by decide) (by decide) hX (by decide) dX3_init_102 ?_
  replace h := z_let_of h
  generalize (z_nG G39 1 ((4 : Int32)).toNatClampNeg) = G41 at h ⊢
  refine v_dup o dX3_init_104 rfl ?_
  refine v_iconst o (0 : Int32) dX3_init_105 (by decide) ?_
  refine v_iconst o (1 : Int32) dX3_init_106 (by decide) ?_
  obtain ⟨n42, n43, h⟩ := z_gA_of h
  refine v_iast o n42 n43 dX3_init_107 ?_
  refine v_dup o dX3_init_108 rfl ?_
  refine v_iconst o (1 : Int32) dX3_init_109 (by decide) ?_
  refine v_iconst o (1 : Int32) dX3_init_110 (by decide) ?_
  obtain ⟨n44, n45, h⟩ := z_gA_of h
  refine v_iast o n44 n45 dX3_init_111 ?_
  refine v_dup o dX3_init_112 rfl ?_
  refine v_iconst o (2 : Int32) dX3_init_113 (by decide) ?_
  refine v_iconst o (1 : Int32) dX3_init_114 (by decide) ?_
  obtain ⟨n46, n47, h⟩ := z_gA_of h
  refine v_iast o n46 n47 dX3_init_115 ?_
  refine v_dup o dX3_init_116 rfl ?_
  refine v_iconst o (3 : Int32) dX3_init_117 (by decide) ?_
  refine v_iconst o (1 : Int32) dX3_init_118 (by decide) ?_
  obtain ⟨n48, n49, h⟩ := z_gA_of h
  refine v_iast o n48 n49 dX3_init_119 ?_
  obtain ⟨n50, h⟩ := z_gK_of h
  obtain ⟨n51, h⟩ := z_gK_of h
  refine pt_3_12 o (by rw [n50]; decide) n51 ln_1_94 rfl rfl dX3_init_120 ?_
  replace h := z_let_of h
  generalize (z_sR G41 312 a0 (z_Z G39)) = G52 at h ⊢
  refine v_aload_n o dX3_init_123 rfl 0 rfl ?_
  refine v_iconst o (4 : Int32) dX3_init_124 (by decide) ?_
  refine v_newJ o 4 ac_long (by decide) (by decide) (by decide) hX (by decide) dX3_init_125 ?_
  replace h := z_let_of h
  generalize (z_nG G52 2 ((4 : Int32)).toNatClampNeg) = G53 at h ⊢
  obtain ⟨n54, h⟩ := z_gK_of h
  obtain ⟨n55, h⟩ := z_gK_of h
  refine pt_3_13 o (by rw [n54]; decide) n55 ln_1_95 rfl rfl dX3_init_127 ?_
  replace h := z_let_of h
  generalize (z_sR G53 313 a0 (z_Z G52)) = G56 at h ⊢
  refine v_aload_n o dX3_init_130 rfl 0 rfl ?_
  refine v_aload_n o dX3_init_131 rfl 1 rfl ?_
  obtain ⟨n57, h⟩ := z_gK_of h
  obtain ⟨n58, h⟩ := z_gK_of h
  refine pt_3_0 o (by rw [n57]; decide) n58 ln_1_82 rfl rfl dX3_init_132 ?_
  replace h := z_let_of h
  generalize (z_sR G56 300 a0 a1) = G59 at h ⊢
  obtain ⟨hr, hs⟩ := Prod.mk.inj (z_some h)
  subst hr
  subst hs
  refine v_widen (k1 := 12) (n1 := 6836) (by decide) (by decide) ?_
  exact v_return o dX3_init_135
theorem e_X3_init {q : z_Q} {l : Launch} {G : z_G} {D : z_D} {a0 : Nat} {a1 : Nat} {G1 : z_G} {D1 : z_D} (hK0 : z_K G a0 = 103) (h : f_X3_init G D a0 a1 = some (G1, D1)) : z_E q l yX3_init cX3_init 2 none 2 12 6836 [.ref (z_w q a0), .ref (z_w q a1)] G D none G1 D1 :=
  z_E.of (by decide) (Nat.le_of_ble_eq_true rfl) (fun X hX _ o => b_X3_init o hX hK0 h)
def f_X6_init (G : z_G) (D : z_D) (a0 : Nat) (a1 : Nat) (a2 : Int32) : Option (z_G × z_D) :=
  z_let (z_nG G 104 0) (fun G1 => (z_gK G1 104 (z_Z G) ((f_X4_init G1 (z_nD D (z_Z G)) (z_Z G)).bind (fun p4 => (z_gK p4.1 104 (z_Z G) (z_gK p4.1 106 a0 (z_let (z_sR p4.1 603 a0 (z_Z G)) (fun G7 => (z_let (z_nG G7 105 0) (fun G8 => (z_gK G8 105 (z_Z G7) ((f_X5_init G8 (z_nD p4.2 (z_Z G7)) (z_Z G7) (128 : Int32)).bind (fun p11 => (z_gK p11.1 105 (z_Z G7) (z_gK p11.1 106 a0 (z_let (z_sR p11.1 605 a0 (z_Z G7)) (fun G14 => (z_gK G14 101 a1 (z_gK G14 106 a0 (z_let (z_sR G14 600 a0 a1) (fun G17 => (z_let (z_nG G17 100 0) (fun G18 => (z_gK G18 100 (z_Z G17) ((f_X0_init G18 (z_nD p11.2 (z_Z G17)) (z_Z G17) a1 a2 ((2 : Int32) * a2)).bind (fun p21 => (z_gK p21.1 100 (z_Z G17) (z_gK p21.1 106 a0 (z_let (z_sR p21.1 601 a0 (z_Z G17)) (fun G24 => (z_let (z_nG G24 100 0) (fun G25 => (z_gK G25 100 (z_Z G24) ((f_X0_init G25 (z_nD p21.2 (z_Z G24)) (z_Z G24) a1 a2 (((2 : Int32) * a2) + (1 : Int32))).bind (fun p28 => (z_gK p28.1 100 (z_Z G24) (z_gK p28.1 106 a0 (z_let (z_sR p28.1 602 a0 (z_Z G24)) (fun G31 => ((if a2 = (0 : Int32) then ((z_gK G31 106 a0 (z_gK G31 104 (z_R G31 603 a0) ((f_X4_becomeFactoryRoot G31 (z_sI p28.2 604 a0 (1 : Int32)) (z_R G31 603 a0)).bind (fun D40 => ((some (G31, D40)))))))) else (z_gK G31 106 a0 (z_gK G31 104 (z_R G31 603 a0) ((f_X4_becomeFactoryRoot G31 (z_sI p28.2 604 a0 (0 : Int32)) (z_R G31 603 a0)).bind (fun D36 => ((some (G31, D36))))))))))))))))))))))))))))))))))))))))))))))))
set_option maxRecDepth 100000 in
set_option maxHeartbeats 4000000 in
theorem b_X6_init {q : z_Q} {X : z_X} {G : z_G} {D : z_D} {a0 : Nat} {a1 : Nat} {a2 : Int32} {G1 : z_G} {D1 : z_D} (o : z_O q X cX6_init 3 "FlashTrust$Shelf" "<init>" none) (hX : x_R X = z_rm 4 28 13725) (hK0 : z_K G a0 = 106) (h : f_X6_init G D a0 a1 a2 = some (G1, D1)) : z_V q X 3 (z_F q X none G1 D1 28 13725) 0 0 G D 0 [(0, .ref (z_w q a0)), (1, .ref (z_w q a1)), (2, .int a2)] [] := by
  unfold f_X6_init at h
  refine v_aload_n o dX6_init_0 rfl 0 rfl ?_
  refine v_objInit o ln_1_173 ob_inst ob_code hX (by decide) (Nat.le_of_ble_eq_true rfl) dX6_init_1 ?_
  refine v_aload_n o dX6_init_4 rfl 0 rfl ?_
  refine nw_4 o ln_1_174 hX (by decide) dX6_init_5 ?_
  replace h := z_let_of h
  generalize (z_nG G 104 0) = G1 at h ⊢
  refine v_dup o dX6_init_8 rfl ?_
  obtain ⟨n2, h⟩ := z_gK_of h
  obtain ⟨p4, he3, h⟩ := z_bind h
  refine v_callIN o yw_X4_init rfl (List.mem_of_getElem? (i := 4) rfl) wi_X4_init hX (by decide) (As := []) rfl rfl (Nat.le_of_ble_eq_true rfl) (e_X4_init n2 he3) dX6_init_9 ?_
  obtain ⟨n5, h⟩ := z_gK_of h
  obtain ⟨n6, h⟩ := z_gK_of h
  refine pt_6_3 o (by rw [n5]; decide) n6 ln_2_46 rfl rfl dX6_init_12 ?_
  replace h := z_let_of h
  generalize (z_sR p4.1 603 a0 (z_Z G)) = G7 at h ⊢
  refine v_aload_n o dX6_init_15 rfl 0 rfl ?_
  refine nw_5 o ln_2_3 hX (by decide) dX6_init_16 ?_
  replace h := z_let_of h
  generalize (z_nG G7 105 0) = G8 at h ⊢
  refine v_dup o dX6_init_19 rfl ?_
  refine v_sipush o (128 : Int32) dX6_init_20 (by decide) ?_
  obtain ⟨n9, h⟩ := z_gK_of h
  obtain ⟨p11, he10, h⟩ := z_bind h
  refine v_callI o yw_X5_init rfl ln_2_4 wi_X5_init hX (by decide) (As := [.int (128 : Int32)]) rfl rfl (Nat.le_of_ble_eq_true rfl) (e_X5_init n9 he10) dX6_init_23 ?_
  obtain ⟨n12, h⟩ := z_gK_of h
  obtain ⟨n13, h⟩ := z_gK_of h
  refine pt_6_5 o (by rw [n12]; decide) n13 ln_2_48 rfl rfl dX6_init_26 ?_
  replace h := z_let_of h
  generalize (z_sR p11.1 605 a0 (z_Z G7)) = G14 at h ⊢
  refine v_aload_n o dX6_init_29 rfl 0 rfl ?_
  refine v_aload_n o dX6_init_30 rfl 1 rfl ?_
  obtain ⟨n15, h⟩ := z_gK_of h
  obtain ⟨n16, h⟩ := z_gK_of h
  refine pt_6_0 o (by rw [n15]; decide) n16 ln_2_43 rfl rfl dX6_init_31 ?_
  replace h := z_let_of h
  generalize (z_sR G14 600 a0 a1) = G17 at h ⊢
  refine v_aload_n o dX6_init_34 rfl 0 rfl ?_
  refine nw_0 o ln_2_5 hX (by decide) dX6_init_35 ?_
  replace h := z_let_of h
  generalize (z_nG G17 100 0) = G18 at h ⊢
  refine v_dup o dX6_init_38 rfl ?_
  refine v_aload_n o dX6_init_39 rfl 1 rfl ?_
  refine v_iload_n o dX6_init_40 rfl 2 rfl ?_
  refine v_iconst o (2 : Int32) dX6_init_41 (by decide) ?_
  refine v_iload_n o dX6_init_42 rfl 2 rfl ?_
  refine v_imul o dX6_init_43 ?_
  obtain ⟨n19, h⟩ := z_gK_of h
  obtain ⟨p21, he20, h⟩ := z_bind h
  refine v_callI o yw_X0_init rfl ln_2_7 wi_X0_init hX (by decide) (As := [.ref (z_w q a1), .int a2, .int ((2 : Int32) * a2)]) rfl rfl (Nat.le_of_ble_eq_true rfl) (e_X0_init n19 he20) dX6_init_44 ?_
  obtain ⟨n22, h⟩ := z_gK_of h
  obtain ⟨n23, h⟩ := z_gK_of h
  refine pt_6_1 o (by rw [n22]; decide) n23 ln_2_44 rfl rfl dX6_init_47 ?_
  replace h := z_let_of h
  generalize (z_sR p21.1 601 a0 (z_Z G17)) = G24 at h ⊢
  refine v_aload_n o dX6_init_50 rfl 0 rfl ?_
  refine nw_0 o ln_2_5 hX (by decide) dX6_init_51 ?_
  replace h := z_let_of h
  generalize (z_nG G24 100 0) = G25 at h ⊢
  refine v_dup o dX6_init_54 rfl ?_
  refine v_aload_n o dX6_init_55 rfl 1 rfl ?_
  refine v_iload_n o dX6_init_56 rfl 2 rfl ?_
  refine v_iconst o (2 : Int32) dX6_init_57 (by decide) ?_
  refine v_iload_n o dX6_init_58 rfl 2 rfl ?_
  refine v_imul o dX6_init_59 ?_
  refine v_iconst o (1 : Int32) dX6_init_60 (by decide) ?_
  refine v_iadd o dX6_init_61 ?_
  obtain ⟨n26, h⟩ := z_gK_of h
  obtain ⟨p28, he27, h⟩ := z_bind h
  refine v_callI o yw_X0_init rfl ln_2_7 wi_X0_init hX (by decide) (As := [.ref (z_w q a1), .int a2, .int (((2 : Int32) * a2) + (1 : Int32))]) rfl rfl (Nat.le_of_ble_eq_true rfl) (e_X0_init n26 he27) dX6_init_62 ?_
  obtain ⟨n29, h⟩ := z_gK_of h
  obtain ⟨n30, h⟩ := z_gK_of h
  refine pt_6_2 o (by rw [n29]; decide) n30 ln_2_45 rfl rfl dX6_init_65 ?_
  replace h := z_let_of h
  generalize (z_sR p28.1 602 a0 (z_Z G24)) = G31 at h ⊢
  refine v_aload_n o dX6_init_68 rfl 0 rfl ?_
  refine v_iload_n o dX6_init_69 rfl 2 rfl ?_
  refine v_if_ne o 77 dX6_init_70 (by decide) (fun c32 => ?_) (fun c32 => ?_)
  · replace h := z_in c32 h
    refine v_iconst o (0 : Int32) dX6_init_77 (by decide) ?_
    obtain ⟨n33, h⟩ := z_gK_of h
    refine pt_6_4 o n33 ln_2_47 rfl rfl (by decide) dX6_init_78 ?_
    refine v_aload_n o dX6_init_81 rfl 0 rfl ?_
    obtain ⟨n34, h⟩ := z_gK_of h
    refine gt_6_3 o n33 ln_2_46 (by rw [n34]; decide) dX6_init_82 ?_
    obtain ⟨D36, he35, h⟩ := z_bind h
    refine v_callV o yw_X4_becomeFactoryRoot ln_2_36 wi_X4_becomeFactoryRoot ws_X4_becomeFactoryRoot hX (by decide) 4 rfl n34 (As := []) rfl rfl (Nat.le_of_ble_eq_true rfl) (e_X4_becomeFactoryRoot n34 he35) dX6_init_85 ?_
    obtain ⟨hr, hs⟩ := Prod.mk.inj (z_some h)
    subst hr
    subst hs
    refine v_widen (k1 := 28) (n1 := 13725) (by decide) (by decide) ?_
    exact v_return o dX6_init_88
  · replace h := z_ip c32 h
    refine v_iconst o (1 : Int32) dX6_init_73 (by decide) ?_
    refine v_goto o 78 dX6_init_74 (by decide) ?_
    obtain ⟨n37, h⟩ := z_gK_of h
    refine pt_6_4 o n37 ln_2_47 rfl rfl (by decide) dX6_init_78 ?_
    refine v_aload_n o dX6_init_81 rfl 0 rfl ?_
    obtain ⟨n38, h⟩ := z_gK_of h
    refine gt_6_3 o n37 ln_2_46 (by rw [n38]; decide) dX6_init_82 ?_
    obtain ⟨D40, he39, h⟩ := z_bind h
    refine v_callV o yw_X4_becomeFactoryRoot ln_2_36 wi_X4_becomeFactoryRoot ws_X4_becomeFactoryRoot hX (by decide) 4 rfl n38 (As := []) rfl rfl (Nat.le_of_ble_eq_true rfl) (e_X4_becomeFactoryRoot n38 he39) dX6_init_85 ?_
    obtain ⟨hr, hs⟩ := Prod.mk.inj (z_some h)
    subst hr
    subst hs
    refine v_widen (k1 := 28) (n1 := 13725) (by decide) (by decide) ?_
    exact v_return o dX6_init_88
theorem e_X6_init {q : z_Q} {l : Launch} {G : z_G} {D : z_D} {a0 : Nat} {a1 : Nat} {a2 : Int32} {G1 : z_G} {D1 : z_D} (hK0 : z_K G a0 = 106) (h : f_X6_init G D a0 a1 a2 = some (G1, D1)) : z_E q l yX6_init cX6_init 3 none 4 28 13725 [.ref (z_w q a0), .ref (z_w q a1), .int a2] G D none G1 D1 :=
  z_E.of (by decide) (Nat.le_of_ble_eq_true rfl) (fun X hX _ o => b_X6_init o hX hK0 h)
def f_X7_init (G : z_G) (D : z_D) (a0 : Nat) : Option (z_G × z_D) :=
  z_let (z_nG G 1 ((400 : Int32)).toNatClampNeg) (fun G1 => (z_gK G1 1 (z_Z G) (z_gK G1 107 a0 (z_let (z_sR G1 700 a0 (z_Z G)) (fun G4 => (z_let (z_nG G4 2 ((400 : Int32)).toNatClampNeg) (fun G5 => (z_gK G5 2 (z_Z G4) (z_gK G5 107 a0 (z_let (z_sR G5 701 a0 (z_Z G4)) (fun G8 => (z_gK G8 107 a0 ((some (G8, (z_sI (z_nD (z_nD D (z_Z G)) (z_Z G4)) 702 a0 (0 : Int32)))))))))))))))))
set_option maxRecDepth 100000 in
set_option maxHeartbeats 4000000 in
theorem b_X7_init {q : z_Q} {X : z_X} {G : z_G} {D : z_D} {a0 : Nat} {G1 : z_G} {D1 : z_D} (o : z_O q X cX7_init 1 "FlashTrust$Signatures" "<init>" none) (hX : x_R X = z_rm 1 2 800) (hK0 : z_K G a0 = 107) (h : f_X7_init G D a0 = some (G1, D1)) : z_V q X 1 (z_F q X none G1 D1 2 800) 0 0 G D 0 [(0, .ref (z_w q a0))] [] := by
  unfold f_X7_init at h
  refine v_aload_n o dX7_init_0 rfl 0 rfl ?_
  refine v_objInit o ln_1_51 ob_inst ob_code hX (by decide) (Nat.le_of_ble_eq_true rfl) dX7_init_1 ?_
  refine v_aload_n o dX7_init_4 rfl 0 rfl ?_
  refine v_sipush o (400 : Int32) dX7_init_5 (by decide) ?_
  refine v_newI o 400 ac_int (by decide) (by decide) (by decide) hX (by decide) dX7_init_8 ?_
  replace h := z_let_of h
  generalize (z_nG G 1 ((400 : Int32)).toNatClampNeg) = G1 at h ⊢
  obtain ⟨n2, h⟩ := z_gK_of h
  obtain ⟨n3, h⟩ := z_gK_of h
  refine pt_7_0 o (by rw [n2]; decide) n3 ln_1_52 rfl rfl dX7_init_10 ?_
  replace h := z_let_of h
  generalize (z_sR G1 700 a0 (z_Z G)) = G4 at h ⊢
  refine v_aload_n o dX7_init_13 rfl 0 rfl ?_
  refine v_sipush o (400 : Int32) dX7_init_14 (by decide) ?_
  refine v_newJ o 400 ac_long (by decide) (by decide) (by decide) hX (by decide) dX7_init_17 ?_
  replace h := z_let_of h
  generalize (z_nG G4 2 ((400 : Int32)).toNatClampNeg) = G5 at h ⊢
  obtain ⟨n6, h⟩ := z_gK_of h
  obtain ⟨n7, h⟩ := z_gK_of h
  refine pt_7_1 o (by rw [n6]; decide) n7 ln_1_53 rfl rfl dX7_init_19 ?_
  replace h := z_let_of h
  generalize (z_sR G5 701 a0 (z_Z G4)) = G8 at h ⊢
  refine v_aload_n o dX7_init_22 rfl 0 rfl ?_
  refine v_iconst o (0 : Int32) dX7_init_23 (by decide) ?_
  obtain ⟨n9, h⟩ := z_gK_of h
  refine pt_7_2 o n9 ln_1_54 dX7_init_24 ?_
  obtain ⟨hr, hs⟩ := Prod.mk.inj (z_some h)
  subst hr
  subst hs
  refine v_widen (k1 := 2) (n1 := 800) (by decide) (by decide) ?_
  exact v_return o dX7_init_27
theorem e_X7_init {q : z_Q} {l : Launch} {G : z_G} {D : z_D} {a0 : Nat} {G1 : z_G} {D1 : z_D} (hK0 : z_K G a0 = 107) (h : f_X7_init G D a0 = some (G1, D1)) : z_E q l yX7_init cX7_init 1 none 1 2 800 [.ref (z_w q a0)] G D none G1 D1 :=
  z_E.of (by decide) (Nat.le_of_ble_eq_true rfl) (fun X hX _ o => b_X7_init o hX hK0 h)
def f_X8_init (G : z_G) (D : z_D) (a0 : Nat) (a1 : Nat) (a2 : Int32) : Option (z_G × z_D) :=
  z_let (z_nG G 105 0) (fun G1 => (z_gK G1 105 (z_Z G) ((f_X5_init G1 (z_nD D (z_Z G)) (z_Z G) (32 : Int32)).bind (fun p4 => (z_gK p4.1 105 (z_Z G) (z_gK p4.1 108 a0 (z_let (z_sR p4.1 803 a0 (z_Z G)) (fun G7 => (z_gK G7 108 a0 (z_gK G7 101 a1 (z_let (z_sR G7 800 a0 a1) (fun G10 => (z_gK G10 108 a0 (z_gK G10 101 a1 ((f_X1_programHash G10 (z_sI (z_sI (z_sI p4.2 804 a0 (-1 : Int32)) 805 a0 (0 : Int32)) 801 a0 a2) a1 (0 : Int32) a2).bind (fun r14 => ((some (G10, (z_sJ (z_sI (z_sI (z_sI p4.2 804 a0 (-1 : Int32)) 805 a0 (0 : Int32)) 801 a0 a2) 802 a0 r14))))))))))))))))))))
set_option maxRecDepth 100000 in
set_option maxHeartbeats 4000000 in
theorem b_X8_init {q : z_Q} {X : z_X} {G : z_G} {D : z_D} {a0 : Nat} {a1 : Nat} {a2 : Int32} {G1 : z_G} {D1 : z_D} (o : z_O q X cX8_init 3 "FlashTrust$States" "<init>" none) (hX : x_R X = z_rm 2 2 3402) (hK0 : z_K G a0 = 108) (h : f_X8_init G D a0 a1 a2 = some (G1, D1)) : z_V q X 3 (z_F q X none G1 D1 2 3402) 0 0 G D 0 [(0, .ref (z_w q a0)), (1, .ref (z_w q a1)), (2, .int a2)] [] := by
  unfold f_X8_init at h
  refine v_aload_n o dX8_init_0 rfl 0 rfl ?_
  refine v_objInit o ln_2_67 ob_inst ob_code hX (by decide) (Nat.le_of_ble_eq_true rfl) dX8_init_1 ?_
  refine v_aload_n o dX8_init_4 rfl 0 rfl ?_
  refine nw_5 o ln_2_68 hX (by decide) dX8_init_5 ?_
  replace h := z_let_of h
  generalize (z_nG G 105 0) = G1 at h ⊢
  refine v_dup o dX8_init_8 rfl ?_
  refine v_bipush o (32 : Int32) dX8_init_9 (by decide) ?_
  obtain ⟨n2, h⟩ := z_gK_of h
  obtain ⟨p4, he3, h⟩ := z_bind h
  refine v_callI o yw_X5_init rfl ln_2_69 wi_X5_init hX (by decide) (As := [.int (32 : Int32)]) rfl rfl (Nat.le_of_ble_eq_true rfl) (e_X5_init n2 he3) dX8_init_11 ?_
  obtain ⟨n5, h⟩ := z_gK_of h
  obtain ⟨n6, h⟩ := z_gK_of h
  refine pt_8_3 o (by rw [n5]; decide) n6 ln_2_87 rfl rfl dX8_init_14 ?_
  replace h := z_let_of h
  generalize (z_sR p4.1 803 a0 (z_Z G)) = G7 at h ⊢
  refine v_aload_n o dX8_init_17 rfl 0 rfl ?_
  refine v_iconst o (-1 : Int32) dX8_init_18 (by decide) ?_
  obtain ⟨n8, h⟩ := z_gK_of h
  refine pt_8_4 o n8 ln_2_88 dX8_init_19 ?_
  refine v_aload_n o dX8_init_22 rfl 0 rfl ?_
  refine v_iconst o (0 : Int32) dX8_init_23 (by decide) ?_
  refine pt_8_5 o n8 ln_2_89 dX8_init_24 ?_
  refine v_aload_n o dX8_init_27 rfl 0 rfl ?_
  refine v_aload_n o dX8_init_28 rfl 1 rfl ?_
  obtain ⟨n9, h⟩ := z_gK_of h
  refine pt_8_0 o (by rw [n9]; decide) n8 ln_2_84 rfl rfl dX8_init_29 ?_
  replace h := z_let_of h
  generalize (z_sR G7 800 a0 a1) = G10 at h ⊢
  refine v_aload_n o dX8_init_32 rfl 0 rfl ?_
  refine v_iload_n o dX8_init_33 rfl 2 rfl ?_
  obtain ⟨n11, h⟩ := z_gK_of h
  refine pt_8_1 o n11 ln_2_85 rfl rfl dX8_init_34 ?_
  refine v_aload_n o dX8_init_37 rfl 0 rfl ?_
  refine v_aload_n o dX8_init_38 rfl 1 rfl ?_
  refine v_iconst o (0 : Int32) dX8_init_39 (by decide) ?_
  refine v_iload_n o dX8_init_40 rfl 2 rfl ?_
  obtain ⟨n12, h⟩ := z_gK_of h
  obtain ⟨r14, he13, h⟩ := z_bind h
  refine v_callV o yw_X1_programHash ln_2_70 wi_X1_programHash ws_X1_programHash hX (by decide) 1 rfl n12 (As := [.int (0 : Int32), .int a2]) rfl rfl (Nat.le_of_ble_eq_true rfl) (e_X1_programHash n12 he13) dX8_init_41 ?_
  refine pt_8_2 o n11 ln_2_86 rfl rfl dX8_init_44 ?_
  obtain ⟨hr, hs⟩ := Prod.mk.inj (z_some h)
  subst hr
  subst hs
  refine v_widen (k1 := 2) (n1 := 3402) (by decide) (by decide) ?_
  exact v_return o dX8_init_47
theorem e_X8_init {q : z_Q} {l : Launch} {G : z_G} {D : z_D} {a0 : Nat} {a1 : Nat} {a2 : Int32} {G1 : z_G} {D1 : z_D} (hK0 : z_K G a0 = 108) (h : f_X8_init G D a0 a1 a2 = some (G1, D1)) : z_E q l yX8_init cX8_init 3 none 2 2 3402 [.ref (z_w q a0), .ref (z_w q a1), .int a2] G D none G1 D1 :=
  z_E.of (by decide) (Nat.le_of_ble_eq_true rfl) (fun X hX _ o => b_X8_init o hX hK0 h)
def f_X9_init (G : z_G) (D : z_D) (a0 : Nat) (a1 : Nat) (a2 : Nat) (a3 : Nat) (a4 : Nat) : Option (z_G × z_D) :=
  z_let (z_nG G 104 0) (fun G1 => (z_gK G1 104 (z_Z G) ((f_X4_init G1 (z_nD D (z_Z G)) (z_Z G)).bind (fun p4 => (z_gK p4.1 104 (z_Z G) (z_gK p4.1 109 a0 (z_let (z_sR p4.1 904 a0 (z_Z G)) (fun G7 => (z_let (z_nG G7 105 0) (fun G8 => (z_gK G8 105 (z_Z G7) ((f_X5_init G8 (z_nD p4.2 (z_Z G7)) (z_Z G7) (0 : Int32)).bind (fun p11 => (z_gK p11.1 105 (z_Z G7) (z_gK p11.1 109 a0 (z_let (z_sR p11.1 905 a0 (z_Z G7)) (fun G14 => (z_gK G14 109 a0 (z_gK G14 101 a1 (z_let (z_sR G14 900 a0 a1) (fun G17 => (z_gK G17 3 a2 (z_gK G17 109 a0 (z_let (z_sR G17 901 a0 a2) (fun G20 => (z_gK G20 108 a3 (z_gK G20 109 a0 (z_let (z_sR G20 902 a0 a3) (fun G23 => (z_gK G23 107 a4 (z_gK G23 109 a0 (z_let (z_sR G23 903 a0 a4) (fun G26 => ((some (G26, (z_sI (z_sI (z_sI (z_sI p11.2 906 a0 (0 : Int32)) 907 a0 (0 : Int32)) 908 a0 (0 : Int32)) 909 a0 (0 : Int32))))))))))))))))))))))))))))))))))))))
set_option maxRecDepth 100000 in
set_option maxHeartbeats 4000000 in
theorem b_X9_init {q : z_Q} {X : z_X} {G : z_G} {D : z_D} {a0 : Nat} {a1 : Nat} {a2 : Nat} {a3 : Nat} {a4 : Nat} {G1 : z_G} {D1 : z_D} (o : z_O q X cX9_init 5 "FlashTrust$Update" "<init>" none) (hX : x_R X = z_rm 3 10 6839) (hK0 : z_K G a0 = 109) (h : f_X9_init G D a0 a1 a2 a3 a4 = some (G1, D1)) : z_V q X 5 (z_F q X none G1 D1 10 6839) 0 0 G D 0 [(0, .ref (z_w q a0)), (1, .ref (z_w q a1)), (2, .ref (z_w q a2)), (3, .ref (z_w q a3)), (4, .ref (z_w q a4))] [] := by
  unfold f_X9_init at h
  refine v_aload_n o dX9_init_0 rfl 0 rfl ?_
  refine v_objInit o ln_2_227 ob_inst ob_code hX (by decide) (Nat.le_of_ble_eq_true rfl) dX9_init_1 ?_
  refine v_aload_n o dX9_init_4 rfl 0 rfl ?_
  refine nw_4 o ln_2_228 hX (by decide) dX9_init_5 ?_
  replace h := z_let_of h
  generalize (z_nG G 104 0) = G1 at h ⊢
  refine v_dup o dX9_init_8 rfl ?_
  obtain ⟨n2, h⟩ := z_gK_of h
  obtain ⟨p4, he3, h⟩ := z_bind h
  refine v_callIN o yw_X4_init rfl (List.mem_of_getElem? (i := 8) rfl) wi_X4_init hX (by decide) (As := []) rfl rfl (Nat.le_of_ble_eq_true rfl) (e_X4_init n2 he3) dX9_init_9 ?_
  obtain ⟨n5, h⟩ := z_gK_of h
  obtain ⟨n6, h⟩ := z_gK_of h
  refine pt_9_4 o (by rw [n5]; decide) n6 ln_2_236 rfl rfl dX9_init_12 ?_
  replace h := z_let_of h
  generalize (z_sR p4.1 904 a0 (z_Z G)) = G7 at h ⊢
  refine v_aload_n o dX9_init_15 rfl 0 rfl ?_
  refine nw_5 o ln_2_230 hX (by decide) dX9_init_16 ?_
  replace h := z_let_of h
  generalize (z_nG G7 105 0) = G8 at h ⊢
  refine v_dup o dX9_init_19 rfl ?_
  refine v_iconst o (0 : Int32) dX9_init_20 (by decide) ?_
  obtain ⟨n9, h⟩ := z_gK_of h
  obtain ⟨p11, he10, h⟩ := z_bind h
  refine v_callI o yw_X5_init rfl ln_2_231 wi_X5_init hX (by decide) (As := [.int (0 : Int32)]) rfl rfl (Nat.le_of_ble_eq_true rfl) (e_X5_init n9 he10) dX9_init_21 ?_
  obtain ⟨n12, h⟩ := z_gK_of h
  obtain ⟨n13, h⟩ := z_gK_of h
  refine pt_9_5 o (by rw [n12]; decide) n13 ln_2_237 rfl rfl dX9_init_24 ?_
  replace h := z_let_of h
  generalize (z_sR p11.1 905 a0 (z_Z G7)) = G14 at h ⊢
  refine v_aload_n o dX9_init_27 rfl 0 rfl ?_
  refine v_iconst o (0 : Int32) dX9_init_28 (by decide) ?_
  obtain ⟨n15, h⟩ := z_gK_of h
  refine pt_9_6 o n15 ln_2_238 dX9_init_29 ?_
  refine v_aload_n o dX9_init_32 rfl 0 rfl ?_
  refine v_iconst o (0 : Int32) dX9_init_33 (by decide) ?_
  refine pt_9_7 o n15 ln_3_0 dX9_init_34 ?_
  refine v_aload_n o dX9_init_37 rfl 0 rfl ?_
  refine v_iconst o (0 : Int32) dX9_init_38 (by decide) ?_
  refine pt_9_8 o n15 ln_3_2 dX9_init_39 ?_
  refine v_aload_n o dX9_init_42 rfl 0 rfl ?_
  refine v_iconst o (0 : Int32) dX9_init_43 (by decide) ?_
  refine pt_9_9 o n15 ln_3_4 dX9_init_44 ?_
  refine v_aload_n o dX9_init_47 rfl 0 rfl ?_
  refine v_aload_n o dX9_init_48 rfl 1 rfl ?_
  obtain ⟨n16, h⟩ := z_gK_of h
  refine pt_9_0 o (by rw [n16]; decide) n15 ln_2_232 rfl rfl dX9_init_49 ?_
  replace h := z_let_of h
  generalize (z_sR G14 900 a0 a1) = G17 at h ⊢
  refine v_aload_n o dX9_init_52 rfl 0 rfl ?_
  refine v_aload_n o dX9_init_53 rfl 2 rfl ?_
  obtain ⟨n18, h⟩ := z_gK_of h
  obtain ⟨n19, h⟩ := z_gK_of h
  refine pt_9_1 o (by rw [n18]; decide) n19 ln_2_233 rfl rfl dX9_init_54 ?_
  replace h := z_let_of h
  generalize (z_sR G17 901 a0 a2) = G20 at h ⊢
  refine v_aload_n o dX9_init_57 rfl 0 rfl ?_
  refine v_aload_n o dX9_init_58 rfl 3 rfl ?_
  obtain ⟨n21, h⟩ := z_gK_of h
  obtain ⟨n22, h⟩ := z_gK_of h
  refine pt_9_2 o (by rw [n21]; decide) n22 ln_2_234 rfl rfl dX9_init_59 ?_
  replace h := z_let_of h
  generalize (z_sR G20 902 a0 a3) = G23 at h ⊢
  refine v_aload_n o dX9_init_62 rfl 0 rfl ?_
  refine v_aload o dX9_init_63 4 rfl ?_
  obtain ⟨n24, h⟩ := z_gK_of h
  obtain ⟨n25, h⟩ := z_gK_of h
  refine pt_9_3 o (by rw [n24]; decide) n25 ln_2_235 rfl rfl dX9_init_65 ?_
  replace h := z_let_of h
  generalize (z_sR G23 903 a0 a4) = G26 at h ⊢
  obtain ⟨hr, hs⟩ := Prod.mk.inj (z_some h)
  subst hr
  subst hs
  refine v_widen (k1 := 10) (n1 := 6839) (by decide) (by decide) ?_
  exact v_return o dX9_init_68
theorem e_X9_init {q : z_Q} {l : Launch} {G : z_G} {D : z_D} {a0 : Nat} {a1 : Nat} {a2 : Nat} {a3 : Nat} {a4 : Nat} {G1 : z_G} {D1 : z_D} (hK0 : z_K G a0 = 109) (h : f_X9_init G D a0 a1 a2 a3 a4 = some (G1, D1)) : z_E q l yX9_init cX9_init 5 none 3 10 6839 [.ref (z_w q a0), .ref (z_w q a1), .ref (z_w q a2), .ref (z_w q a3), .ref (z_w q a4)] G D none G1 D1 :=
  z_E.of (by decide) (Nat.le_of_ble_eq_true rfl) (fun X hX _ o => b_X9_init o hX hK0 h)
def f_X10_init (G : z_G) (D : z_D) (a0 : Nat) (a1 : Int32) : Option (z_G × z_D) :=
  z_let (z_nG G 105 0) (fun G1 => (z_gK G1 105 (z_Z G) ((f_X5_init G1 (z_nD D (z_Z G)) (z_Z G) (300 : Int32)).bind (fun p4 => (z_gK p4.1 105 (z_Z G) (z_gK p4.1 110 a0 (z_let (z_sR p4.1 1000 a0 (z_Z G)) (fun G7 => (z_let (z_nG G7 3 ((4 : Int32)).toNatClampNeg) (fun G8 => (z_gK G8 3 (z_Z G7) (z_gK G8 110 a0 (z_let (z_sR G8 1003 a0 (z_Z G7)) (fun G11 => (z_let (z_nG G11 107 0) (fun G12 => (z_gK G12 107 (z_Z G11) ((f_X7_init G12 (z_nD (z_nD p4.2 (z_Z G7)) (z_Z G11)) (z_Z G11)).bind (fun p15 => (z_let (z_nG p15.1 103 0) (fun G16 => (z_gK G16 103 (z_Z p15.1) ((f_X3_init G16 (z_nD p15.2 (z_Z p15.1)) (z_Z p15.1) (z_Z G11)).bind (fun p19 => (z_gK p19.1 103 (z_Z p15.1) (z_gK p19.1 110 a0 (z_let (z_sR p19.1 1001 a0 (z_Z p15.1)) (fun G22 => (z_let (z_nG G22 101 0) (fun G23 => (z_gK G23 101 (z_Z G22) ((f_X1_init G23 (z_nD p19.2 (z_Z G22)) (z_Z G22) (if (1 : Int32) < (if (1024 : Int32) < a1 then (1024 : Int32) else a1) then (if (1024 : Int32) < a1 then (1024 : Int32) else a1) else (1 : Int32))).bind (fun p26 => (z_gK p26.1 101 (z_Z G22) (z_gK p26.1 110 a0 (z_let (z_sR p26.1 1002 a0 (z_Z G22)) (fun G29 => ((z_gK G29 110 a0 (z_gK G29 3 (z_R G29 1003 a0) (z_let (z_nG G29 106 0) (fun G32 => (z_gK G32 110 a0 (z_gK G32 101 (z_R G32 1002 a0) (z_gK G32 106 (z_Z G29) ((f_X6_init G32 (z_nD p26.2 (z_Z G29)) (z_Z G29) (z_R G32 1002 a0) (0 : Int32)).bind (fun p37 => (z_gA p37.1 3 (z_R G29 1003 a0) (0 : Int32) (z_gK p37.1 106 (z_Z G29) (z_let (z_sA p37.1 (z_R G29 1003 a0) ((0 : Int32)).toNatClampNeg (z_Z G29)) (fun G41 => (((z_gK G41 110 a0 (z_gK G41 3 (z_R G41 1003 a0) (z_let (z_nG G41 106 0) (fun G44 => (z_gK G44 110 a0 (z_gK G44 101 (z_R G44 1002 a0) (z_gK G44 106 (z_Z G41) ((f_X6_init G44 (z_nD p37.2 (z_Z G41)) (z_Z G41) (z_R G44 1002 a0) (1 : Int32)).bind (fun p49 => (z_gA p49.1 3 (z_R G41 1003 a0) (1 : Int32) (z_gK p49.1 106 (z_Z G41) (z_let (z_sA p49.1 (z_R G41 1003 a0) ((1 : Int32)).toNatClampNeg (z_Z G41)) (fun G53 => (((z_gK G53 110 a0 (z_gK G53 3 (z_R G53 1003 a0) (z_let (z_nG G53 106 0) (fun G56 => (z_gK G56 110 a0 (z_gK G56 101 (z_R G56 1002 a0) (z_gK G56 106 (z_Z G53) ((f_X6_init G56 (z_nD p49.2 (z_Z G53)) (z_Z G53) (z_R G56 1002 a0) (2 : Int32)).bind (fun p61 => (z_gA p61.1 3 (z_R G53 1003 a0) (2 : Int32) (z_gK p61.1 106 (z_Z G53) (z_let (z_sA p61.1 (z_R G53 1003 a0) ((2 : Int32)).toNatClampNeg (z_Z G53)) (fun G65 => (((z_gK G65 110 a0 (z_gK G65 3 (z_R G65 1003 a0) (z_let (z_nG G65 106 0) (fun G68 => (z_gK G68 110 a0 (z_gK G68 101 (z_R G68 1002 a0) (z_gK G68 106 (z_Z G65) ((f_X6_init G68 (z_nD p61.2 (z_Z G65)) (z_Z G65) (z_R G68 1002 a0) (3 : Int32)).bind (fun p73 => (z_gA p73.1 3 (z_R G65 1003 a0) (3 : Int32) (z_gK p73.1 106 (z_Z G65) (z_let (z_sA p73.1 (z_R G65 1003 a0) ((3 : Int32)).toNatClampNeg (z_Z G65)) (fun G77 => (((z_let (z_nG G77 108 0) (fun G78 => (z_gK G78 110 a0 (z_gK G78 101 (z_R G78 1002 a0) (z_gK G78 108 (z_Z G77) ((f_X8_init G78 (z_nD p73.2 (z_Z G77)) (z_Z G77) (z_R G78 1002 a0) (if (1 : Int32) < (if (1024 : Int32) < a1 then (1024 : Int32) else a1) then (if (1024 : Int32) < a1 then (1024 : Int32) else a1) else (1 : Int32))).bind (fun p83 => (z_gK p83.1 108 (z_Z G77) (z_gK p83.1 110 a0 (z_let (z_sR p83.1 1004 a0 (z_Z G77)) (fun G86 => (z_gK G86 110 a0 (z_gK G86 108 (z_R G86 1004 a0) ((f_X8_install G86 p83.2 (z_R G86 1004 a0)).bind (fun D90 => (z_let (z_nG G86 102 0) (fun G91 => (z_gK G91 110 a0 (z_gK G91 101 (z_R G91 1002 a0) (z_gK G91 108 (z_R G91 1004 a0) (z_gK G91 102 (z_Z G86) ((f_X2_init G91 (z_nD D90 (z_Z G86)) (z_Z G86) (z_R G91 1002 a0) (z_R G91 1004 a0)).bind (fun p97 => (z_gK p97.1 102 (z_Z G86) (z_gK p97.1 110 a0 (z_let (z_sR p97.1 1005 a0 (z_Z G86)) (fun G100 => (z_let (z_nG G100 109 0) (fun G101 => (z_gK G101 110 a0 (z_gK G101 101 (z_R G101 1002 a0) (z_gK G101 3 (z_R G101 1003 a0) (z_gK G101 108 (z_R G101 1004 a0) (z_gK G101 109 (z_Z G100) ((f_X9_init G101 (z_nD p97.2 (z_Z G100)) (z_Z G100) (z_R G101 1002 a0) (z_R G101 1003 a0) (z_R G101 1004 a0) (z_Z G11)).bind (fun p108 => (z_gK p108.1 109 (z_Z G100) (z_gK p108.1 110 a0 (z_let (z_sR p108.1 1006 a0 (z_Z G100)) (fun G111 => ((some (G111, p108.2)))))))))))))))))))))))))))))))))))))))))))))))))))))))))))))))))))))))))))))))))))))))))))))))))))))))))))))))))))))))))))))))))))))))))))))
set_option maxRecDepth 100000 in
set_option maxHeartbeats 4000000 in
theorem b_X10_init {q : z_Q} {X : z_X} {G : z_G} {D : z_D} {a0 : Nat} {a1 : Int32} {G1 : z_G} {D1 : z_D} (o : z_O q X cX10_init 5 "FlashTrust" "<init>" none) (hX : x_R X = z_rm 5 153 79660) (hK0 : z_K G a0 = 110) (h : f_X10_init G D a0 a1 = some (G1, D1)) : z_V q X 5 (z_F q X none G1 D1 153 79660) 0 0 G D 0 [(0, .ref (z_w q a0)), (1, .int a1)] [] := by
  unfold f_X10_init at h
  refine v_aload_n o dX10_init_0 rfl 0 rfl ?_
  refine v_objInit o ln_1_20 ob_inst ob_code hX (by decide) (Nat.le_of_ble_eq_true rfl) dX10_init_1 ?_
  refine v_aload_n o dX10_init_4 rfl 0 rfl ?_
  refine nw_5 o ln_1_23 hX (by decide) dX10_init_5 ?_
  replace h := z_let_of h
  generalize (z_nG G 105 0) = G1 at h ⊢
  refine v_dup o dX10_init_8 rfl ?_
  refine v_sipush o (300 : Int32) dX10_init_9 (by decide) ?_
  obtain ⟨n2, h⟩ := z_gK_of h
  obtain ⟨p4, he3, h⟩ := z_bind h
  refine v_callI o yw_X5_init rfl ln_1_25 wi_X5_init hX (by decide) (As := [.int (300 : Int32)]) rfl rfl (Nat.le_of_ble_eq_true rfl) (e_X5_init n2 he3) dX10_init_12 ?_
  obtain ⟨n5, h⟩ := z_gK_of h
  obtain ⟨n6, h⟩ := z_gK_of h
  refine pt_10_0 o (by rw [n5]; decide) n6 ln_3_27 rfl rfl dX10_init_15 ?_
  replace h := z_let_of h
  generalize (z_sR p4.1 1000 a0 (z_Z G)) = G7 at h ⊢
  refine v_aload_n o dX10_init_18 rfl 0 rfl ?_
  refine v_iconst o (4 : Int32) dX10_init_19 (by decide) ?_
  refine v_newQ o 4 ln_1_40 (by decide) (by decide) (by decide) hX (by decide) dX10_init_20 ?_
  replace h := z_let_of h
  generalize (z_nG G7 3 ((4 : Int32)).toNatClampNeg) = G8 at h ⊢
  obtain ⟨n9, h⟩ := z_gK_of h
  obtain ⟨n10, h⟩ := z_gK_of h
  refine pt_10_3 o (by rw [n9]; decide) n10 ln_3_30 rfl rfl dX10_init_23 ?_
  replace h := z_let_of h
  generalize (z_sR G8 1003 a0 (z_Z G7)) = G11 at h ⊢
  refine v_iconst o (1 : Int32) dX10_init_26 (by decide) ?_
  refine v_iload_n o dX10_init_27 rfl 1 rfl ?_
  refine v_sipush o (1024 : Int32) dX10_init_28 (by decide) ?_
  refine v_mmin o ln_1_42 hX (by decide) (Nat.le_of_ble_eq_true rfl) dX10_init_31 ?_
  refine v_mmax o ln_1_45 hX (by decide) (Nat.le_of_ble_eq_true rfl) dX10_init_34 ?_
  refine v_istore_n o [(2, .int (if (1 : Int32) < (if (1024 : Int32) < a1 then (1024 : Int32) else a1) then (if (1024 : Int32) < a1 then (1024 : Int32) else a1) else (1 : Int32))), (0, .ref (z_w q a0)), (1, .int a1)] dX10_init_37 rfl (by decide) rfl ?_
  refine nw_7 o ln_1_46 hX (by decide) dX10_init_38 ?_
  replace h := z_let_of h
  generalize (z_nG G11 107 0) = G12 at h ⊢
  refine v_dup o dX10_init_41 rfl ?_
  obtain ⟨n13, h⟩ := z_gK_of h
  obtain ⟨p15, he14, h⟩ := z_bind h
  refine v_callIN o yw_X7_init rfl (List.mem_of_getElem? (i := 0) rfl) wi_X7_init hX (by decide) (As := []) rfl rfl (Nat.le_of_ble_eq_true rfl) (e_X7_init n13 he14) dX10_init_42 ?_
  refine v_astore_n o [(3, .ref (z_w q (z_Z G11))), (2, .int (if (1 : Int32) < (if (1024 : Int32) < a1 then (1024 : Int32) else a1) then (if (1024 : Int32) < a1 then (1024 : Int32) else a1) else (1 : Int32))), (0, .ref (z_w q a0)), (1, .int a1)] dX10_init_45 rfl (by decide) rfl ?_
  refine v_aload_n o dX10_init_46 rfl 2 rfl ?_
  refine nw_3 o ln_1_63 hX (by decide) dX10_init_47 ?_
  replace h := z_let_of h
  generalize (z_nG p15.1 103 0) = G16 at h ⊢
  refine v_dup o dX10_init_50 rfl ?_
  refine v_aload_n o dX10_init_51 rfl 0 rfl ?_
  obtain ⟨n17, h⟩ := z_gK_of h
  obtain ⟨p19, he18, h⟩ := z_bind h
  refine v_callI o yw_X3_init rfl ln_1_65 wi_X3_init hX (by decide) (As := [.ref (z_w q (z_Z G11))]) rfl rfl (Nat.le_of_ble_eq_true rfl) (e_X3_init n17 he18) dX10_init_52 ?_
  obtain ⟨n20, h⟩ := z_gK_of h
  obtain ⟨n21, h⟩ := z_gK_of h
  refine pt_10_1 o (by rw [n20]; decide) n21 ln_3_28 rfl rfl dX10_init_55 ?_
  replace h := z_let_of h
  generalize (z_sR p19.1 1001 a0 (z_Z p15.1)) = G22 at h ⊢
  refine v_aload_n o dX10_init_58 rfl 2 rfl ?_
  refine nw_1 o ln_1_125 hX (by decide) dX10_init_59 ?_
  replace h := z_let_of h
  generalize (z_nG G22 101 0) = G23 at h ⊢
  refine v_dup o dX10_init_62 rfl ?_
  refine v_iload_n o dX10_init_63 rfl 1 rfl ?_
  obtain ⟨n24, h⟩ := z_gK_of h
  obtain ⟨p26, he25, h⟩ := z_bind h
  refine v_callI o yw_X1_init rfl ln_1_127 wi_X1_init hX (by decide) (As := [.int (if (1 : Int32) < (if (1024 : Int32) < a1 then (1024 : Int32) else a1) then (if (1024 : Int32) < a1 then (1024 : Int32) else a1) else (1 : Int32))]) rfl rfl (Nat.le_of_ble_eq_true rfl) (e_X1_init n24 he25) dX10_init_64 ?_
  obtain ⟨n27, h⟩ := z_gK_of h
  obtain ⟨n28, h⟩ := z_gK_of h
  refine pt_10_2 o (by rw [n27]; decide) n28 ln_3_29 rfl rfl dX10_init_67 ?_
  replace h := z_let_of h
  generalize (z_sR p26.1 1002 a0 (z_Z G22)) = G29 at h ⊢
  refine v_iconst o (0 : Int32) dX10_init_70 (by decide) ?_
  refine v_istore o [(4, .int (0 : Int32)), (3, .ref (z_w q (z_Z G11))), (2, .int (if (1 : Int32) < (if (1024 : Int32) < a1 then (1024 : Int32) else a1) then (if (1024 : Int32) < a1 then (1024 : Int32) else a1) else (1 : Int32))), (0, .ref (z_w q a0)), (1, .int a1)] dX10_init_71 (by decide) rfl ?_
  refine v_iload o dX10_init_73 0 rfl ?_
  refine v_iconst o (4 : Int32) dX10_init_75 (by decide) ?_
  refine v_icmp_ge o 105 dX10_init_76 (by decide) (fun c => absurd c (by decide)) (fun _ => ?_)
  refine v_aload_n o dX10_init_79 rfl 3 rfl ?_
  obtain ⟨n30, h⟩ := z_gK_of h
  obtain ⟨n31, h⟩ := z_gK_of h
  refine gt_10_3 o n30 ln_3_30 (by rw [n31]; decide) dX10_init_80 ?_
  refine v_iload o dX10_init_83 0 rfl ?_
  refine nw_6 o ln_1_40 hX (by decide) dX10_init_85 ?_
  replace h := z_let_of h
  generalize (z_nG G29 106 0) = G32 at h ⊢
  refine v_dup o dX10_init_88 rfl ?_
  refine v_aload_n o dX10_init_89 rfl 3 rfl ?_
  obtain ⟨n33, h⟩ := z_gK_of h
  obtain ⟨n34, h⟩ := z_gK_of h
  refine gt_10_2 o n33 ln_3_29 (by rw [n34]; decide) dX10_init_90 ?_
  refine v_iload o dX10_init_93 0 rfl ?_
  obtain ⟨n35, h⟩ := z_gK_of h
  obtain ⟨p37, he36, h⟩ := z_bind h
  refine v_callI o yw_X6_init rfl ln_1_170 wi_X6_init hX (by decide) (As := [.ref (z_w q (z_R G32 1002 a0)), .int (0 : Int32)]) rfl rfl (Nat.le_of_ble_eq_true rfl) (e_X6_init n35 he36) dX10_init_95 ?_
  obtain ⟨n38, n39, h⟩ := z_gA_of h
  obtain ⟨n40, h⟩ := z_gK_of h
  refine v_aast o n38 n39 n40 dX10_init_98 ?_
  replace h := z_let_of h
  generalize (z_sA p37.1 (z_R G29 1003 a0) ((0 : Int32)).toNatClampNeg (z_Z G29)) = G41 at h ⊢
  refine v_iinc o (1 : Int32) [(4, .int (1 : Int32)), (3, .ref (z_w q (z_Z G11))), (2, .int (if (1 : Int32) < (if (1024 : Int32) < a1 then (1024 : Int32) else a1) then (if (1024 : Int32) < a1 then (1024 : Int32) else a1) else (1 : Int32))), (0, .ref (z_w q a0)), (1, .int a1)] dX10_init_99 0 rfl (by decide) (by decide) rfl ?_
  refine v_goto o 73 dX10_init_102 (by decide) ?_
  refine v_iload o dX10_init_73 0 rfl ?_
  refine v_iconst o (4 : Int32) dX10_init_75 (by decide) ?_
  refine v_icmp_ge o 105 dX10_init_76 (by decide) (fun c => absurd c (by decide)) (fun _ => ?_)
  refine v_aload_n o dX10_init_79 rfl 3 rfl ?_
  obtain ⟨n42, h⟩ := z_gK_of h
  obtain ⟨n43, h⟩ := z_gK_of h
  refine gt_10_3 o n42 ln_3_30 (by rw [n43]; decide) dX10_init_80 ?_
  refine v_iload o dX10_init_83 0 rfl ?_
  refine nw_6 o ln_1_40 hX (by decide) dX10_init_85 ?_
  replace h := z_let_of h
  generalize (z_nG G41 106 0) = G44 at h ⊢
  refine v_dup o dX10_init_88 rfl ?_
  refine v_aload_n o dX10_init_89 rfl 3 rfl ?_
  obtain ⟨n45, h⟩ := z_gK_of h
  obtain ⟨n46, h⟩ := z_gK_of h
  refine gt_10_2 o n45 ln_3_29 (by rw [n46]; decide) dX10_init_90 ?_
  refine v_iload o dX10_init_93 0 rfl ?_
  obtain ⟨n47, h⟩ := z_gK_of h
  obtain ⟨p49, he48, h⟩ := z_bind h
  refine v_callI o yw_X6_init rfl ln_1_170 wi_X6_init hX (by decide) (As := [.ref (z_w q (z_R G44 1002 a0)), .int (1 : Int32)]) rfl rfl (Nat.le_of_ble_eq_true rfl) (e_X6_init n47 he48) dX10_init_95 ?_
  obtain ⟨n50, n51, h⟩ := z_gA_of h
  obtain ⟨n52, h⟩ := z_gK_of h
  refine v_aast o n50 n51 n52 dX10_init_98 ?_
  replace h := z_let_of h
  generalize (z_sA p49.1 (z_R G41 1003 a0) ((1 : Int32)).toNatClampNeg (z_Z G41)) = G53 at h ⊢
  refine v_iinc o (2 : Int32) [(4, .int (2 : Int32)), (3, .ref (z_w q (z_Z G11))), (2, .int (if (1 : Int32) < (if (1024 : Int32) < a1 then (1024 : Int32) else a1) then (if (1024 : Int32) < a1 then (1024 : Int32) else a1) else (1 : Int32))), (0, .ref (z_w q a0)), (1, .int a1)] dX10_init_99 0 rfl (by decide) (by decide) rfl ?_
  refine v_goto o 73 dX10_init_102 (by decide) ?_
  refine v_iload o dX10_init_73 0 rfl ?_
  refine v_iconst o (4 : Int32) dX10_init_75 (by decide) ?_
  refine v_icmp_ge o 105 dX10_init_76 (by decide) (fun c => absurd c (by decide)) (fun _ => ?_)
  refine v_aload_n o dX10_init_79 rfl 3 rfl ?_
  obtain ⟨n54, h⟩ := z_gK_of h
  obtain ⟨n55, h⟩ := z_gK_of h
  refine gt_10_3 o n54 ln_3_30 (by rw [n55]; decide) dX10_init_80 ?_
  refine v_iload o dX10_init_83 0 rfl ?_
  refine nw_6 o ln_1_40 hX (by decide) dX10_init_85 ?_
  replace h := z_let_of h
  generalize (z_nG G53 106 0) = G56 at h ⊢
  refine v_dup o dX10_init_88 rfl ?_
  refine v_aload_n o dX10_init_89 rfl 3 rfl ?_
  obtain ⟨n57, h⟩ := z_gK_of h
  obtain ⟨n58, h⟩ := z_gK_of h
  refine gt_10_2 o n57 ln_3_29 (by rw [n58]; decide) dX10_init_90 ?_
  refine v_iload o dX10_init_93 0 rfl ?_
  obtain ⟨n59, h⟩ := z_gK_of h
  obtain ⟨p61, he60, h⟩ := z_bind h
  refine v_callI o yw_X6_init rfl ln_1_170 wi_X6_init hX (by decide) (As := [.ref (z_w q (z_R G56 1002 a0)), .int (2 : Int32)]) rfl rfl (Nat.le_of_ble_eq_true rfl) (e_X6_init n59 he60) dX10_init_95 ?_
  obtain ⟨n62, n63, h⟩ := z_gA_of h
  obtain ⟨n64, h⟩ := z_gK_of h
  refine v_aast o n62 n63 n64 dX10_init_98 ?_
  replace h := z_let_of h
  generalize (z_sA p61.1 (z_R G53 1003 a0) ((2 : Int32)).toNatClampNeg (z_Z G53)) = G65 at h ⊢
  refine v_iinc o (3 : Int32) [(4, .int (3 : Int32)), (3, .ref (z_w q (z_Z G11))), (2, .int (if (1 : Int32) < (if (1024 : Int32) < a1 then (1024 : Int32) else a1) then (if (1024 : Int32) < a1 then (1024 : Int32) else a1) else (1 : Int32))), (0, .ref (z_w q a0)), (1, .int a1)] dX10_init_99 0 rfl (by decide) (by decide) rfl ?_
  refine v_goto o 73 dX10_init_102 (by decide) ?_
  refine v_iload o dX10_init_73 0 rfl ?_
  refine v_iconst o (4 : Int32) dX10_init_75 (by decide) ?_
  refine v_icmp_ge o 105 dX10_init_76 (by decide) (fun c => absurd c (by decide)) (fun _ => ?_)
  refine v_aload_n o dX10_init_79 rfl 3 rfl ?_
  obtain ⟨n66, h⟩ := z_gK_of h
  obtain ⟨n67, h⟩ := z_gK_of h
  refine gt_10_3 o n66 ln_3_30 (by rw [n67]; decide) dX10_init_80 ?_
  refine v_iload o dX10_init_83 0 rfl ?_
  refine nw_6 o ln_1_40 hX (by decide) dX10_init_85 ?_
  replace h := z_let_of h
  generalize (z_nG G65 106 0) = G68 at h ⊢
  refine v_dup o dX10_init_88 rfl ?_
  refine v_aload_n o dX10_init_89 rfl 3 rfl ?_
  obtain ⟨n69, h⟩ := z_gK_of h
  obtain ⟨n70, h⟩ := z_gK_of h
  refine gt_10_2 o n69 ln_3_29 (by rw [n70]; decide) dX10_init_90 ?_
  refine v_iload o dX10_init_93 0 rfl ?_
  obtain ⟨n71, h⟩ := z_gK_of h
  obtain ⟨p73, he72, h⟩ := z_bind h
  refine v_callI o yw_X6_init rfl ln_1_170 wi_X6_init hX (by decide) (As := [.ref (z_w q (z_R G68 1002 a0)), .int (3 : Int32)]) rfl rfl (Nat.le_of_ble_eq_true rfl) (e_X6_init n71 he72) dX10_init_95 ?_
  obtain ⟨n74, n75, h⟩ := z_gA_of h
  obtain ⟨n76, h⟩ := z_gK_of h
  refine v_aast o n74 n75 n76 dX10_init_98 ?_
  replace h := z_let_of h
  generalize (z_sA p73.1 (z_R G65 1003 a0) ((3 : Int32)).toNatClampNeg (z_Z G65)) = G77 at h ⊢
  refine v_iinc o (4 : Int32) [(4, .int (4 : Int32)), (3, .ref (z_w q (z_Z G11))), (2, .int (if (1 : Int32) < (if (1024 : Int32) < a1 then (1024 : Int32) else a1) then (if (1024 : Int32) < a1 then (1024 : Int32) else a1) else (1 : Int32))), (0, .ref (z_w q a0)), (1, .int a1)] dX10_init_99 0 rfl (by decide) (by decide) rfl ?_
  refine v_goto o 73 dX10_init_102 (by decide) ?_
  refine v_iload o dX10_init_73 0 rfl ?_
  refine v_iconst o (4 : Int32) dX10_init_75 (by decide) ?_
  refine v_icmp_ge o 105 dX10_init_76 (by decide) (fun _ => ?_) (fun c => absurd c (by decide))
  refine v_aload_n o dX10_init_105 rfl 3 rfl ?_
  refine nw_8 o ln_2_62 hX (by decide) dX10_init_106 ?_
  replace h := z_let_of h
  generalize (z_nG G77 108 0) = G78 at h ⊢
  refine v_dup o dX10_init_109 rfl ?_
  refine v_aload_n o dX10_init_110 rfl 3 rfl ?_
  obtain ⟨n79, h⟩ := z_gK_of h
  obtain ⟨n80, h⟩ := z_gK_of h
  refine gt_10_2 o n79 ln_3_29 (by rw [n80]; decide) dX10_init_111 ?_
  refine v_iload_n o dX10_init_114 rfl 2 rfl ?_
  obtain ⟨n81, h⟩ := z_gK_of h
  obtain ⟨p83, he82, h⟩ := z_bind h
  refine v_callI o yw_X8_init rfl ln_2_64 wi_X8_init hX (by decide) (As := [.ref (z_w q (z_R G78 1002 a0)), .int (if (1 : Int32) < (if (1024 : Int32) < a1 then (1024 : Int32) else a1) then (if (1024 : Int32) < a1 then (1024 : Int32) else a1) else (1 : Int32))]) rfl rfl (Nat.le_of_ble_eq_true rfl) (e_X8_init n81 he82) dX10_init_115 ?_
  obtain ⟨n84, h⟩ := z_gK_of h
  obtain ⟨n85, h⟩ := z_gK_of h
  refine pt_10_4 o (by rw [n84]; decide) n85 ln_3_31 rfl rfl dX10_init_118 ?_
  replace h := z_let_of h
  generalize (z_sR p83.1 1004 a0 (z_Z G77)) = G86 at h ⊢
  refine v_aload_n o dX10_init_121 rfl 3 rfl ?_
  obtain ⟨n87, h⟩ := z_gK_of h
  obtain ⟨n88, h⟩ := z_gK_of h
  refine gt_10_4 o n87 ln_3_31 (by rw [n88]; decide) dX10_init_122 ?_
  obtain ⟨D90, he89, h⟩ := z_bind h
  refine v_callV o yw_X8_install ln_2_140 wi_X8_install ws_X8_install hX (by decide) 8 rfl n88 (As := []) rfl rfl (Nat.le_of_ble_eq_true rfl) (e_X8_install n88 he89) dX10_init_125 ?_
  refine v_aload_n o dX10_init_128 rfl 3 rfl ?_
  refine nw_2 o ln_2_201 hX (by decide) dX10_init_129 ?_
  replace h := z_let_of h
  generalize (z_nG G86 102 0) = G91 at h ⊢
  refine v_dup o dX10_init_132 rfl ?_
  refine v_aload_n o dX10_init_133 rfl 3 rfl ?_
  obtain ⟨n92, h⟩ := z_gK_of h
  obtain ⟨n93, h⟩ := z_gK_of h
  refine gt_10_2 o n92 ln_3_29 (by rw [n93]; decide) dX10_init_134 ?_
  refine v_aload_n o dX10_init_137 rfl 3 rfl ?_
  obtain ⟨n94, h⟩ := z_gK_of h
  refine gt_10_4 o n92 ln_3_31 (by rw [n94]; decide) dX10_init_138 ?_
  obtain ⟨n95, h⟩ := z_gK_of h
  obtain ⟨p97, he96, h⟩ := z_bind h
  refine v_callI o yw_X2_init rfl ln_2_203 wi_X2_init hX (by decide) (As := [.ref (z_w q (z_R G91 1002 a0)), .ref (z_w q (z_R G91 1004 a0))]) rfl rfl (Nat.le_of_ble_eq_true rfl) (e_X2_init n95 he96) dX10_init_141 ?_
  obtain ⟨n98, h⟩ := z_gK_of h
  obtain ⟨n99, h⟩ := z_gK_of h
  refine pt_10_5 o (by rw [n98]; decide) n99 ln_3_32 rfl rfl dX10_init_144 ?_
  replace h := z_let_of h
  generalize (z_sR p97.1 1005 a0 (z_Z G86)) = G100 at h ⊢
  refine v_aload_n o dX10_init_147 rfl 3 rfl ?_
  refine nw_9 o ln_2_222 hX (by decide) dX10_init_148 ?_
  replace h := z_let_of h
  generalize (z_nG G100 109 0) = G101 at h ⊢
  refine v_dup o dX10_init_151 rfl ?_
  refine v_aload_n o dX10_init_152 rfl 3 rfl ?_
  obtain ⟨n102, h⟩ := z_gK_of h
  obtain ⟨n103, h⟩ := z_gK_of h
  refine gt_10_2 o n102 ln_3_29 (by rw [n103]; decide) dX10_init_153 ?_
  refine v_aload_n o dX10_init_156 rfl 3 rfl ?_
  obtain ⟨n104, h⟩ := z_gK_of h
  refine gt_10_3 o n102 ln_3_30 (by rw [n104]; decide) dX10_init_157 ?_
  refine v_aload_n o dX10_init_160 rfl 3 rfl ?_
  obtain ⟨n105, h⟩ := z_gK_of h
  refine gt_10_4 o n102 ln_3_31 (by rw [n105]; decide) dX10_init_161 ?_
  refine v_aload_n o dX10_init_164 rfl 1 rfl ?_
  obtain ⟨n106, h⟩ := z_gK_of h
  obtain ⟨p108, he107, h⟩ := z_bind h
  refine v_callI o yw_X9_init rfl ln_2_224 wi_X9_init hX (by decide) (As := [.ref (z_w q (z_R G101 1002 a0)), .ref (z_w q (z_R G101 1003 a0)), .ref (z_w q (z_R G101 1004 a0)), .ref (z_w q (z_Z G11))]) rfl rfl (Nat.le_of_ble_eq_true rfl) (e_X9_init n106 he107) dX10_init_165 ?_
  obtain ⟨n109, h⟩ := z_gK_of h
  obtain ⟨n110, h⟩ := z_gK_of h
  refine pt_10_6 o (by rw [n109]; decide) n110 ln_3_33 rfl rfl dX10_init_168 ?_
  replace h := z_let_of h
  generalize (z_sR p108.1 1006 a0 (z_Z G100)) = G111 at h ⊢
  obtain ⟨hr, hs⟩ := Prod.mk.inj (z_some h)
  subst hr
  subst hs
  refine v_widen (k1 := 153) (n1 := 79660) (by decide) (by decide) ?_
  exact v_return o dX10_init_171
theorem e_X10_init {q : z_Q} {l : Launch} {G : z_G} {D : z_D} {a0 : Nat} {a1 : Int32} {G1 : z_G} {D1 : z_D} (hK0 : z_K G a0 = 110) (h : f_X10_init G D a0 a1 = some (G1, D1)) : z_E q l yX10_init cX10_init 5 none 5 153 79660 [.ref (z_w q a0), .int a1] G D none G1 D1 :=
  z_E.of (by decide) (Nat.le_of_ble_eq_true rfl) (fun X hX _ o => b_X10_init o hX hK0 h)
def p_X11_init_223 (q : z_Q) (X : z_X) (Q : State → Prop) (G : z_G) (a0 : Nat) : (z_D × Int32) → Prop := (fun v => z_V q X 3 Q 21 5691 G v.1 223 [(0, .ref (z_w q a0)), (2, .int v.2)] [])
def x_X11_init_223 (q : z_Q) (X : z_X) (Q : State → Prop) (G : z_G) (a0 : Nat) : z_D → Prop := (fun v => z_V q X 3 Q 21 5691 G v 245 [(0, .ref (z_w q a0))] [])
def k_X11_init_223 (q : z_Q) (X : z_X) (Q : State → Prop) (G : z_G) (a0 : Nat) : (z_D × Int32) ⊕ z_D → Prop := Sum.elim (p_X11_init_223 q X Q G a0) (x_X11_init_223 q X Q G a0)
def c_X11_init_223 (G : z_G) (D : z_D) (a0 : Nat) (a2 : Int32) : Option ((z_D × Int32) ⊕ z_D) :=
  (if (3328 : Int32) ≤ a2 then (some (.inr D)) else (z_gK G 1 (z_R G 1100 a0) (z_gA G 1 (z_R G 1100 a0) a2 ((some (.inl ((z_sU D (z_R G 1100 a0) (a2).toNatClampNeg (255 : Int32)), (a2 + (1 : Int32)))))))))
set_option maxRecDepth 100000 in
set_option maxHeartbeats 4000000 in
theorem tc_X11_init_223 {q : z_Q} {X : z_X} {G : z_G} {D : z_D} {Q : State → Prop} {a0 : Nat} {a2 : Int32} (o : z_O q X cX11_init 3 "FlashTrustModel" "<init>" none) (hX : x_R X = z_rm 4 21 5691) (hK0 : z_K G a0 = 111) {ρ : (z_D × Int32) ⊕ z_D} (h : c_X11_init_223 G D a0 a2 = some ρ) (hk : k_X11_init_223 q X Q G a0 ρ) : z_V q X 3 Q 21 5691 G D 223 [(0, .ref (z_w q a0)), (2, .int a2)] [] := by
  unfold c_X11_init_223 at h
  refine v_iload_n o dX11_init_223 rfl 1 rfl ?_
  refine v_sipush o (3328 : Int32) dX11_init_224 (by decide) ?_
  refine v_icmp_ge o 245 dX11_init_227 (by decide) (fun c98 => ?_) (fun c98 => ?_)
  · replace h := z_ip c98 h
    obtain rfl := z_some h
    refine v_sub [0] rfl ?_
    exact hk
  · replace h := z_in c98 h
    refine v_aload_n o dX11_init_230 rfl 0 rfl ?_
    obtain ⟨n99, h⟩ := z_gK_of h
    refine gt_11_0 o hK0 ln_5_95 (by rw [n99]; decide) dX11_init_231 ?_
    refine v_iload_n o dX11_init_234 rfl 1 rfl ?_
    refine v_sipush o (255 : Int32) dX11_init_235 (by decide) ?_
    obtain ⟨n100, n101, h⟩ := z_gA_of h
    refine v_iast o n100 n101 dX11_init_238 ?_
    refine v_iinc o (a2 + (1 : Int32)) [(2, .int (a2 + (1 : Int32))), (0, .ref (z_w q a0))] dX11_init_239 1 rfl rfl (by decide) rfl ?_
    refine v_goto o 223 dX11_init_242 (by decide) ?_
    obtain rfl := z_some h
    refine v_sub [1, 0] rfl ?_
    exact hk
def p_X11_init_247 (q : z_Q) (X : z_X) (Q : State → Prop) (G : z_G) (a0 : Nat) : (z_D × Int32) → Prop := (fun v => z_V q X 3 Q 21 5691 G v.1 247 [(0, .ref (z_w q a0)), (2, .int v.2)] [])
def x_X11_init_247 (q : z_Q) (X : z_X) (Q : State → Prop) (G : z_G) (a0 : Nat) : z_D → Prop := (fun v => z_V q X 3 Q 21 5691 G v 282 [(0, .ref (z_w q a0))] [])
def k_X11_init_247 (q : z_Q) (X : z_X) (Q : State → Prop) (G : z_G) (a0 : Nat) : (z_D × Int32) ⊕ z_D → Prop := Sum.elim (p_X11_init_247 q X Q G a0) (x_X11_init_247 q X Q G a0)
def c_X11_init_247 (G : z_G) (D : z_D) (a0 : Nat) (a2 : Int32) : Option ((z_D × Int32) ⊕ z_D) :=
  (if (z_I D 1101 a0) ≤ a2 then (some (.inr D)) else (z_gK G 1 (z_R G 1100 a0) ((f_X11_slotAt G D (0 : Int32)).bind (fun r107 => (z_gA G 1 (z_R G 1100 a0) (r107 + a2) ((some (.inl ((z_sU D (z_R G 1100 a0) ((r107 + a2)).toNatClampNeg ((((7 : Int32) * a2) + (3 : Int32)) &&& (255 : Int32))), (a2 + (1 : Int32)))))))))))
set_option maxRecDepth 100000 in
set_option maxHeartbeats 4000000 in
theorem tc_X11_init_247 {q : z_Q} {X : z_X} {G : z_G} {D : z_D} {Q : State → Prop} {a0 : Nat} {a2 : Int32} (o : z_O q X cX11_init 3 "FlashTrustModel" "<init>" none) (hX : x_R X = z_rm 4 21 5691) (hK0 : z_K G a0 = 111) {ρ : (z_D × Int32) ⊕ z_D} (h : c_X11_init_247 G D a0 a2 = some ρ) (hk : k_X11_init_247 q X Q G a0 ρ) : z_V q X 3 Q 21 5691 G D 247 [(0, .ref (z_w q a0)), (2, .int a2)] [] := by
  unfold c_X11_init_247 at h
  refine v_iload_n o dX11_init_247 rfl 1 rfl ?_
  refine v_aload_n o dX11_init_248 rfl 0 rfl ?_
  refine gt_11_1 o hK0 ln_5_96 dX11_init_249 ?_
  refine v_icmp_ge o 282 dX11_init_252 (by decide) (fun c104 => ?_) (fun c104 => ?_)
  · replace h := z_ip c104 h
    obtain rfl := z_some h
    refine v_sub [0] rfl ?_
    exact hk
  · replace h := z_in c104 h
    refine v_aload_n o dX11_init_255 rfl 0 rfl ?_
    obtain ⟨n105, h⟩ := z_gK_of h
    refine gt_11_0 o hK0 ln_5_95 (by rw [n105]; decide) dX11_init_256 ?_
    refine v_iconst o (0 : Int32) dX11_init_259 (by decide) ?_
    obtain ⟨r107, he106, h⟩ := z_bind h
    refine v_callS o yw_X11_slotAt ln_5_45 ws_X11_slotAt hX (by decide) (As := [.int (0 : Int32)]) rfl rfl (Nat.le_of_ble_eq_true rfl) (e_X11_slotAt he106) dX11_init_260 ?_
    refine v_iload_n o dX11_init_263 rfl 1 rfl ?_
    refine v_iadd o dX11_init_264 ?_
    refine v_bipush o (7 : Int32) dX11_init_265 (by decide) ?_
    refine v_iload_n o dX11_init_267 rfl 1 rfl ?_
    refine v_imul o dX11_init_268 ?_
    refine v_iconst o (3 : Int32) dX11_init_269 (by decide) ?_
    refine v_iadd o dX11_init_270 ?_
    refine v_sipush o (255 : Int32) dX11_init_271 (by decide) ?_
    refine v_iand o dX11_init_274 ?_
    obtain ⟨n108, n109, h⟩ := z_gA_of h
    refine v_iast o n108 n109 dX11_init_275 ?_
    refine v_iinc o (a2 + (1 : Int32)) [(2, .int (a2 + (1 : Int32))), (0, .ref (z_w q a0))] dX11_init_276 1 rfl rfl (by decide) rfl ?_
    refine v_goto o 247 dX11_init_279 (by decide) ?_
    obtain rfl := z_some h
    refine v_sub [1, 0] rfl ?_
    exact hk
def p_X11_init_297 (q : z_Q) (X : z_X) (Q : State → Prop) (G : z_G) (a0 : Nat) : (z_D × Int32) → Prop := (fun v => z_V q X 3 Q 21 5691 G v.1 297 [(0, .ref (z_w q a0)), (2, .int v.2)] [])
def x_X11_init_297 (q : z_Q) (X : z_X) (Q : State → Prop) (G : z_G) (a0 : Nat) : z_D → Prop := (fun v => z_V q X 3 Q 21 5691 G v 366 [(0, .ref (z_w q a0))] [])
def k_X11_init_297 (q : z_Q) (X : z_X) (Q : State → Prop) (G : z_G) (a0 : Nat) : (z_D × Int32) ⊕ z_D → Prop := Sum.elim (p_X11_init_297 q X Q G a0) (x_X11_init_297 q X Q G a0)
def c_X11_init_297 (G : z_G) (D : z_D) (a0 : Nat) (a2 : Int32) : Option ((z_D × Int32) ⊕ z_D) :=
  (if (4 : Int32) ≤ a2 then (some (.inr D)) else (z_gK G 1 (z_R G 1163 a0) ((if a2 = (0 : Int32) then ((z_gA G 1 (z_R G 1163 a0) a2 (z_gK G 1 (z_R G 1164 a0) ((if a2 = (1 : Int32) then ((z_gA G 1 (z_R G 1164 a0) a2 ((some (.inl ((z_sU (z_sU D (z_R G 1163 a0) (a2).toNatClampNeg (7 : Int32)) (z_R G 1164 a0) (a2).toNatClampNeg (1 : Int32)), (a2 + (1 : Int32)))))))) else ((if a2 = (2 : Int32) then ((z_gA G 1 (z_R G 1164 a0) a2 ((some (.inl ((z_sU (z_sU D (z_R G 1163 a0) (a2).toNatClampNeg (7 : Int32)) (z_R G 1164 a0) (a2).toNatClampNeg (1 : Int32)), (a2 + (1 : Int32)))))))) else (z_gA G 1 (z_R G 1164 a0) a2 ((some (.inl ((z_sU (z_sU D (z_R G 1163 a0) (a2).toNatClampNeg (7 : Int32)) (z_R G 1164 a0) (a2).toNatClampNeg (2 : Int32)), (a2 + (1 : Int32)))))))))))))) else ((if a2 = (1 : Int32) then ((z_gA G 1 (z_R G 1163 a0) a2 (z_gK G 1 (z_R G 1164 a0) ((if a2 = (1 : Int32) then ((z_gA G 1 (z_R G 1164 a0) a2 ((some (.inl ((z_sU (z_sU D (z_R G 1163 a0) (a2).toNatClampNeg (8 : Int32)) (z_R G 1164 a0) (a2).toNatClampNeg (1 : Int32)), (a2 + (1 : Int32)))))))) else ((if a2 = (2 : Int32) then ((z_gA G 1 (z_R G 1164 a0) a2 ((some (.inl ((z_sU (z_sU D (z_R G 1163 a0) (a2).toNatClampNeg (8 : Int32)) (z_R G 1164 a0) (a2).toNatClampNeg (1 : Int32)), (a2 + (1 : Int32)))))))) else (z_gA G 1 (z_R G 1164 a0) a2 ((some (.inl ((z_sU (z_sU D (z_R G 1163 a0) (a2).toNatClampNeg (8 : Int32)) (z_R G 1164 a0) (a2).toNatClampNeg (2 : Int32)), (a2 + (1 : Int32)))))))))))))) else ((if a2 = (2 : Int32) then ((z_gA G 1 (z_R G 1163 a0) a2 (z_gK G 1 (z_R G 1164 a0) ((if a2 = (1 : Int32) then ((z_gA G 1 (z_R G 1164 a0) a2 ((some (.inl ((z_sU (z_sU D (z_R G 1163 a0) (a2).toNatClampNeg (16 : Int32)) (z_R G 1164 a0) (a2).toNatClampNeg (1 : Int32)), (a2 + (1 : Int32)))))))) else ((if a2 = (2 : Int32) then ((z_gA G 1 (z_R G 1164 a0) a2 ((some (.inl ((z_sU (z_sU D (z_R G 1163 a0) (a2).toNatClampNeg (16 : Int32)) (z_R G 1164 a0) (a2).toNatClampNeg (1 : Int32)), (a2 + (1 : Int32)))))))) else (z_gA G 1 (z_R G 1164 a0) a2 ((some (.inl ((z_sU (z_sU D (z_R G 1163 a0) (a2).toNatClampNeg (16 : Int32)) (z_R G 1164 a0) (a2).toNatClampNeg (2 : Int32)), (a2 + (1 : Int32)))))))))))))) else (z_gA G 1 (z_R G 1163 a0) a2 (z_gK G 1 (z_R G 1164 a0) ((if a2 = (1 : Int32) then ((z_gA G 1 (z_R G 1164 a0) a2 ((some (.inl ((z_sU (z_sU D (z_R G 1163 a0) (a2).toNatClampNeg (96 : Int32)) (z_R G 1164 a0) (a2).toNatClampNeg (1 : Int32)), (a2 + (1 : Int32)))))))) else ((if a2 = (2 : Int32) then ((z_gA G 1 (z_R G 1164 a0) a2 ((some (.inl ((z_sU (z_sU D (z_R G 1163 a0) (a2).toNatClampNeg (96 : Int32)) (z_R G 1164 a0) (a2).toNatClampNeg (1 : Int32)), (a2 + (1 : Int32)))))))) else (z_gA G 1 (z_R G 1164 a0) a2 ((some (.inl ((z_sU (z_sU D (z_R G 1163 a0) (a2).toNatClampNeg (96 : Int32)) (z_R G 1164 a0) (a2).toNatClampNeg (2 : Int32)), (a2 + (1 : Int32)))))))))))))))))))))
set_option maxRecDepth 100000 in
set_option maxHeartbeats 4000000 in
theorem tc_X11_init_297 {q : z_Q} {X : z_X} {G : z_G} {D : z_D} {Q : State → Prop} {a0 : Nat} {a2 : Int32} (o : z_O q X cX11_init 3 "FlashTrustModel" "<init>" none) (hX : x_R X = z_rm 4 21 5691) (hK0 : z_K G a0 = 111) {ρ : (z_D × Int32) ⊕ z_D} (h : c_X11_init_297 G D a0 a2 = some ρ) (hk : k_X11_init_297 q X Q G a0 ρ) : z_V q X 3 Q 21 5691 G D 297 [(0, .ref (z_w q a0)), (2, .int a2)] [] := by
  unfold c_X11_init_297 at h
  refine v_iload_n o dX11_init_297 rfl 1 rfl ?_
  refine v_iconst o (4 : Int32) dX11_init_298 (by decide) ?_
  refine v_icmp_ge o 366 dX11_init_299 (by decide) (fun c114 => ?_) (fun c114 => ?_)
  · replace h := z_ip c114 h
    obtain rfl := z_some h
    refine v_sub [0] rfl ?_
    exact hk
  · replace h := z_in c114 h
    refine v_aload_n o dX11_init_302 rfl 0 rfl ?_
    obtain ⟨n115, h⟩ := z_gK_of h
    refine gt_11_63 o hK0 ln_5_158 (by rw [n115]; decide) dX11_init_303 ?_
    refine v_iload_n o dX11_init_306 rfl 1 rfl ?_
    refine v_iload_n o dX11_init_307 rfl 1 rfl ?_
    refine v_if_ne o 316 dX11_init_308 (by decide) (fun c116 => ?_) (fun c116 => ?_)
    · replace h := z_in c116 h
      refine v_iload_n o dX11_init_316 rfl 1 rfl ?_
      refine v_iconst o (1 : Int32) dX11_init_317 (by decide) ?_
      refine v_icmp_ne o 326 dX11_init_318 (by decide) (fun c117 => ?_) (fun c117 => ?_)
      · replace h := z_in c117 h
        refine v_iload_n o dX11_init_326 rfl 1 rfl ?_
        refine v_iconst o (2 : Int32) dX11_init_327 (by decide) ?_
        refine v_icmp_ne o 336 dX11_init_328 (by decide) (fun c118 => ?_) (fun c118 => ?_)
        · replace h := z_in c118 h
          refine v_bipush o (96 : Int32) dX11_init_336 (by decide) ?_
          obtain ⟨n119, n120, h⟩ := z_gA_of h
          refine v_iast o n119 n120 dX11_init_338 ?_
          refine v_aload_n o dX11_init_339 rfl 0 rfl ?_
          obtain ⟨n121, h⟩ := z_gK_of h
          refine gt_11_64 o hK0 ln_5_159 (by rw [n121]; decide) dX11_init_340 ?_
          refine v_iload_n o dX11_init_343 rfl 1 rfl ?_
          refine v_iload_n o dX11_init_344 rfl 1 rfl ?_
          refine v_iconst o (1 : Int32) dX11_init_345 (by decide) ?_
          refine v_icmp_eq o 354 dX11_init_346 (by decide) (fun c122 => ?_) (fun c122 => ?_)
          · replace h := z_ip c122 h
            refine v_iconst o (1 : Int32) dX11_init_354 (by decide) ?_
            refine v_goto o 359 dX11_init_355 (by decide) ?_
            obtain ⟨n123, n124, h⟩ := z_gA_of h
            refine v_iast o n123 n124 dX11_init_359 ?_
            refine v_iinc o (a2 + (1 : Int32)) [(2, .int (a2 + (1 : Int32))), (0, .ref (z_w q a0))] dX11_init_360 1 rfl rfl (by decide) rfl ?_
            refine v_goto o 297 dX11_init_363 (by decide) ?_
            obtain rfl := z_some h
            refine v_sub [1, 0] rfl ?_
            exact hk
          · replace h := z_in c122 h
            refine v_iload_n o dX11_init_349 rfl 1 rfl ?_
            refine v_iconst o (2 : Int32) dX11_init_350 (by decide) ?_
            refine v_icmp_ne o 358 dX11_init_351 (by decide) (fun c125 => ?_) (fun c125 => ?_)
            · replace h := z_in c125 h
              refine v_iconst o (2 : Int32) dX11_init_358 (by decide) ?_
              obtain ⟨n126, n127, h⟩ := z_gA_of h
              refine v_iast o n126 n127 dX11_init_359 ?_
              refine v_iinc o (a2 + (1 : Int32)) [(2, .int (a2 + (1 : Int32))), (0, .ref (z_w q a0))] dX11_init_360 1 rfl rfl (by decide) rfl ?_
              refine v_goto o 297 dX11_init_363 (by decide) ?_
              obtain rfl := z_some h
              refine v_sub [1, 0] rfl ?_
              exact hk
            · replace h := z_ip c125 h
              refine v_iconst o (1 : Int32) dX11_init_354 (by decide) ?_
              refine v_goto o 359 dX11_init_355 (by decide) ?_
              obtain ⟨n128, n129, h⟩ := z_gA_of h
              refine v_iast o n128 n129 dX11_init_359 ?_
              refine v_iinc o (a2 + (1 : Int32)) [(2, .int (a2 + (1 : Int32))), (0, .ref (z_w q a0))] dX11_init_360 1 rfl rfl (by decide) rfl ?_
              refine v_goto o 297 dX11_init_363 (by decide) ?_
              obtain rfl := z_some h
              refine v_sub [1, 0] rfl ?_
              exact hk
        · replace h := z_ip c118 h
          refine v_bipush o (16 : Int32) dX11_init_331 (by decide) ?_
          refine v_goto o 338 dX11_init_333 (by decide) ?_
          obtain ⟨n130, n131, h⟩ := z_gA_of h
          refine v_iast o n130 n131 dX11_init_338 ?_
          refine v_aload_n o dX11_init_339 rfl 0 rfl ?_
          obtain ⟨n132, h⟩ := z_gK_of h
          refine gt_11_64 o hK0 ln_5_159 (by rw [n132]; decide) dX11_init_340 ?_
          refine v_iload_n o dX11_init_343 rfl 1 rfl ?_
          refine v_iload_n o dX11_init_344 rfl 1 rfl ?_
          refine v_iconst o (1 : Int32) dX11_init_345 (by decide) ?_
          refine v_icmp_eq o 354 dX11_init_346 (by decide) (fun c133 => ?_) (fun c133 => ?_)
          · replace h := z_ip c133 h
            refine v_iconst o (1 : Int32) dX11_init_354 (by decide) ?_
            refine v_goto o 359 dX11_init_355 (by decide) ?_
            obtain ⟨n134, n135, h⟩ := z_gA_of h
            refine v_iast o n134 n135 dX11_init_359 ?_
            refine v_iinc o (a2 + (1 : Int32)) [(2, .int (a2 + (1 : Int32))), (0, .ref (z_w q a0))] dX11_init_360 1 rfl rfl (by decide) rfl ?_
            refine v_goto o 297 dX11_init_363 (by decide) ?_
            obtain rfl := z_some h
            refine v_sub [1, 0] rfl ?_
            exact hk
          · replace h := z_in c133 h
            refine v_iload_n o dX11_init_349 rfl 1 rfl ?_
            refine v_iconst o (2 : Int32) dX11_init_350 (by decide) ?_
            refine v_icmp_ne o 358 dX11_init_351 (by decide) (fun c136 => ?_) (fun c136 => ?_)
            · replace h := z_in c136 h
              refine v_iconst o (2 : Int32) dX11_init_358 (by decide) ?_
              obtain ⟨n137, n138, h⟩ := z_gA_of h
              refine v_iast o n137 n138 dX11_init_359 ?_
              refine v_iinc o (a2 + (1 : Int32)) [(2, .int (a2 + (1 : Int32))), (0, .ref (z_w q a0))] dX11_init_360 1 rfl rfl (by decide) rfl ?_
              refine v_goto o 297 dX11_init_363 (by decide) ?_
              obtain rfl := z_some h
              refine v_sub [1, 0] rfl ?_
              exact hk
            · replace h := z_ip c136 h
              refine v_iconst o (1 : Int32) dX11_init_354 (by decide) ?_
              refine v_goto o 359 dX11_init_355 (by decide) ?_
              obtain ⟨n139, n140, h⟩ := z_gA_of h
              refine v_iast o n139 n140 dX11_init_359 ?_
              refine v_iinc o (a2 + (1 : Int32)) [(2, .int (a2 + (1 : Int32))), (0, .ref (z_w q a0))] dX11_init_360 1 rfl rfl (by decide) rfl ?_
              refine v_goto o 297 dX11_init_363 (by decide) ?_
              obtain rfl := z_some h
              refine v_sub [1, 0] rfl ?_
              exact hk
      · replace h := z_ip c117 h
        refine v_bipush o (8 : Int32) dX11_init_321 (by decide) ?_
        refine v_goto o 338 dX11_init_323 (by decide) ?_
        obtain ⟨n141, n142, h⟩ := z_gA_of h
        refine v_iast o n141 n142 dX11_init_338 ?_
        refine v_aload_n o dX11_init_339 rfl 0 rfl ?_
        obtain ⟨n143, h⟩ := z_gK_of h
        refine gt_11_64 o hK0 ln_5_159 (by rw [n143]; decide) dX11_init_340 ?_
        refine v_iload_n o dX11_init_343 rfl 1 rfl ?_
        refine v_iload_n o dX11_init_344 rfl 1 rfl ?_
        refine v_iconst o (1 : Int32) dX11_init_345 (by decide) ?_
        refine v_icmp_eq o 354 dX11_init_346 (by decide) (fun c144 => ?_) (fun c144 => ?_)
        · replace h := z_ip c144 h
          refine v_iconst o (1 : Int32) dX11_init_354 (by decide) ?_
          refine v_goto o 359 dX11_init_355 (by decide) ?_
          obtain ⟨n145, n146, h⟩ := z_gA_of h
          refine v_iast o n145 n146 dX11_init_359 ?_
          refine v_iinc o (a2 + (1 : Int32)) [(2, .int (a2 + (1 : Int32))), (0, .ref (z_w q a0))] dX11_init_360 1 rfl rfl (by decide) rfl ?_
          refine v_goto o 297 dX11_init_363 (by decide) ?_
          obtain rfl := z_some h
          refine v_sub [1, 0] rfl ?_
          exact hk
        · replace h := z_in c144 h
          refine v_iload_n o dX11_init_349 rfl 1 rfl ?_
          refine v_iconst o (2 : Int32) dX11_init_350 (by decide) ?_
          refine v_icmp_ne o 358 dX11_init_351 (by decide) (fun c147 => ?_) (fun c147 => ?_)
          · replace h := z_in c147 h
            refine v_iconst o (2 : Int32) dX11_init_358 (by decide) ?_
            obtain ⟨n148, n149, h⟩ := z_gA_of h
            refine v_iast o n148 n149 dX11_init_359 ?_
            refine v_iinc o (a2 + (1 : Int32)) [(2, .int (a2 + (1 : Int32))), (0, .ref (z_w q a0))] dX11_init_360 1 rfl rfl (by decide) rfl ?_
            refine v_goto o 297 dX11_init_363 (by decide) ?_
            obtain rfl := z_some h
            refine v_sub [1, 0] rfl ?_
            exact hk
          · replace h := z_ip c147 h
            refine v_iconst o (1 : Int32) dX11_init_354 (by decide) ?_
            refine v_goto o 359 dX11_init_355 (by decide) ?_
            obtain ⟨n150, n151, h⟩ := z_gA_of h
            refine v_iast o n150 n151 dX11_init_359 ?_
            refine v_iinc o (a2 + (1 : Int32)) [(2, .int (a2 + (1 : Int32))), (0, .ref (z_w q a0))] dX11_init_360 1 rfl rfl (by decide) rfl ?_
            refine v_goto o 297 dX11_init_363 (by decide) ?_
            obtain rfl := z_some h
            refine v_sub [1, 0] rfl ?_
            exact hk
    · replace h := z_ip c116 h
      refine v_bipush o (7 : Int32) dX11_init_311 (by decide) ?_
      refine v_goto o 338 dX11_init_313 (by decide) ?_
      obtain ⟨n152, n153, h⟩ := z_gA_of h
      refine v_iast o n152 n153 dX11_init_338 ?_
      refine v_aload_n o dX11_init_339 rfl 0 rfl ?_
      obtain ⟨n154, h⟩ := z_gK_of h
      refine gt_11_64 o hK0 ln_5_159 (by rw [n154]; decide) dX11_init_340 ?_
      refine v_iload_n o dX11_init_343 rfl 1 rfl ?_
      refine v_iload_n o dX11_init_344 rfl 1 rfl ?_
      refine v_iconst o (1 : Int32) dX11_init_345 (by decide) ?_
      refine v_icmp_eq o 354 dX11_init_346 (by decide) (fun c155 => ?_) (fun c155 => ?_)
      · replace h := z_ip c155 h
        refine v_iconst o (1 : Int32) dX11_init_354 (by decide) ?_
        refine v_goto o 359 dX11_init_355 (by decide) ?_
        obtain ⟨n156, n157, h⟩ := z_gA_of h
        refine v_iast o n156 n157 dX11_init_359 ?_
        refine v_iinc o (a2 + (1 : Int32)) [(2, .int (a2 + (1 : Int32))), (0, .ref (z_w q a0))] dX11_init_360 1 rfl rfl (by decide) rfl ?_
        refine v_goto o 297 dX11_init_363 (by decide) ?_
        obtain rfl := z_some h
        refine v_sub [1, 0] rfl ?_
        exact hk
      · replace h := z_in c155 h
        refine v_iload_n o dX11_init_349 rfl 1 rfl ?_
        refine v_iconst o (2 : Int32) dX11_init_350 (by decide) ?_
        refine v_icmp_ne o 358 dX11_init_351 (by decide) (fun c158 => ?_) (fun c158 => ?_)
        · replace h := z_in c158 h
          refine v_iconst o (2 : Int32) dX11_init_358 (by decide) ?_
          obtain ⟨n159, n160, h⟩ := z_gA_of h
          refine v_iast o n159 n160 dX11_init_359 ?_
          refine v_iinc o (a2 + (1 : Int32)) [(2, .int (a2 + (1 : Int32))), (0, .ref (z_w q a0))] dX11_init_360 1 rfl rfl (by decide) rfl ?_
          refine v_goto o 297 dX11_init_363 (by decide) ?_
          obtain rfl := z_some h
          refine v_sub [1, 0] rfl ?_
          exact hk
        · replace h := z_ip c158 h
          refine v_iconst o (1 : Int32) dX11_init_354 (by decide) ?_
          refine v_goto o 359 dX11_init_355 (by decide) ?_
          obtain ⟨n161, n162, h⟩ := z_gA_of h
          refine v_iast o n161 n162 dX11_init_359 ?_
          refine v_iinc o (a2 + (1 : Int32)) [(2, .int (a2 + (1 : Int32))), (0, .ref (z_w q a0))] dX11_init_360 1 rfl rfl (by decide) rfl ?_
          refine v_goto o 297 dX11_init_363 (by decide) ?_
          obtain rfl := z_some h
          refine v_sub [1, 0] rfl ?_
          exact hk
def p_X11_init_382 (q : z_Q) (X : z_X) (Q : State → Prop) (G : z_G) (a0 : Nat) : (z_D × Int32) → Prop := (fun v => z_V q X 3 Q 21 5691 G v.1 382 [(0, .ref (z_w q a0)), (2, .int v.2)] [])
def x_X11_init_382 (q : z_Q) (X : z_X) (Q : State → Prop) (G : z_G) (a0 : Nat) : z_D → Prop := (fun v => z_V q X 3 Q 21 5691 G v 410 [] [])
def k_X11_init_382 (q : z_Q) (X : z_X) (Q : State → Prop) (G : z_G) (a0 : Nat) : (z_D × Int32) ⊕ z_D → Prop := Sum.elim (p_X11_init_382 q X Q G a0) (x_X11_init_382 q X Q G a0)
def c_X11_init_382 (G : z_G) (D : z_D) (a0 : Nat) (a2 : Int32) : Option ((z_D × Int32) ⊕ z_D) :=
  (if (32 : Int32) ≤ a2 then (some (.inr D)) else (z_gK G 1 (z_R G 1100 a0) (z_gK G 1 (z_R G 1113 a0) (z_gA G 1 (z_R G 1113 a0) a2 (z_gA G 1 (z_R G 1100 a0) ((1024 : Int32) + a2) ((some (.inl ((z_sU D (z_R G 1100 a0) (((1024 : Int32) + a2)).toNatClampNeg (z_U D (z_R G 1113 a0) (a2).toNatClampNeg)), (a2 + (1 : Int32)))))))))))
set_option maxRecDepth 100000 in
set_option maxHeartbeats 4000000 in
theorem tc_X11_init_382 {q : z_Q} {X : z_X} {G : z_G} {D : z_D} {Q : State → Prop} {a0 : Nat} {a2 : Int32} (o : z_O q X cX11_init 3 "FlashTrustModel" "<init>" none) (hX : x_R X = z_rm 4 21 5691) (hK0 : z_K G a0 = 111) {ρ : (z_D × Int32) ⊕ z_D} (h : c_X11_init_382 G D a0 a2 = some ρ) (hk : k_X11_init_382 q X Q G a0 ρ) : z_V q X 3 Q 21 5691 G D 382 [(0, .ref (z_w q a0)), (2, .int a2)] [] := by
  unfold c_X11_init_382 at h
  refine v_iload_n o dX11_init_382 rfl 1 rfl ?_
  refine v_bipush o (32 : Int32) dX11_init_383 (by decide) ?_
  refine v_icmp_ge o 410 dX11_init_385 (by decide) (fun c169 => ?_) (fun c169 => ?_)
  · replace h := z_ip c169 h
    obtain rfl := z_some h
    refine v_sub [] rfl ?_
    exact hk
  · replace h := z_in c169 h
    refine v_aload_n o dX11_init_388 rfl 0 rfl ?_
    obtain ⟨n170, h⟩ := z_gK_of h
    refine gt_11_0 o hK0 ln_5_95 (by rw [n170]; decide) dX11_init_389 ?_
    refine v_sipush o (1024 : Int32) dX11_init_392 (by decide) ?_
    refine v_iload_n o dX11_init_395 rfl 1 rfl ?_
    refine v_iadd o dX11_init_396 ?_
    refine v_aload_n o dX11_init_397 rfl 0 rfl ?_
    obtain ⟨n171, h⟩ := z_gK_of h
    refine gt_11_13 o hK0 ln_5_108 (by rw [n171]; decide) dX11_init_398 ?_
    refine v_iload_n o dX11_init_401 rfl 1 rfl ?_
    obtain ⟨n172, n173, h⟩ := z_gA_of h
    refine v_iald o n172 n173 dX11_init_402 ?_
    obtain ⟨n174, n175, h⟩ := z_gA_of h
    refine v_iast o n174 n175 dX11_init_403 ?_
    refine v_iinc o (a2 + (1 : Int32)) [(2, .int (a2 + (1 : Int32))), (0, .ref (z_w q a0))] dX11_init_404 1 rfl rfl (by decide) rfl ?_
    refine v_goto o 382 dX11_init_407 (by decide) ?_
    obtain rfl := z_some h
    refine v_sub [1, 0] rfl ?_
    exact hk
def f_X11_init (G : z_G) (D : z_D) (a0 : Nat) (a1 : Int32) : Option (z_G × z_D) :=
  z_let (z_nG G 1 ((3328 : Int32)).toNatClampNeg) (fun G1 => (z_gK G1 1 (z_Z G) (z_gK G1 111 a0 (z_let (z_sR G1 1100 a0 (z_Z G)) (fun G4 => (z_gK G4 111 a0 (z_let (z_nG G4 1 ((400 : Int32)).toNatClampNeg) (fun G6 => (z_gK G6 1 (z_Z G4) (z_gK G6 111 a0 (z_let (z_sR G6 1111 a0 (z_Z G4)) (fun G9 => (z_let (z_nG G9 1 ((32 : Int32)).toNatClampNeg) (fun G10 => (z_gK G10 1 (z_Z G9) (z_gK G10 111 a0 (z_let (z_sR G10 1113 a0 (z_Z G9)) (fun G13 => (z_let (z_nG G13 1 ((400 : Int32)).toNatClampNeg) (fun G14 => (z_gK G14 1 (z_Z G13) (z_gK G14 111 a0 (z_let (z_sR G14 1125 a0 (z_Z G13)) (fun G17 => (z_let (z_nG G17 1 ((4 : Int32)).toNatClampNeg) (fun G18 => (z_gK G18 1 (z_Z G17) (z_gK G18 111 a0 (z_let (z_sR G18 1133 a0 (z_Z G17)) (fun G21 => (z_let (z_nG G21 1 ((4 : Int32)).toNatClampNeg) (fun G22 => (z_gK G22 1 (z_Z G21) (z_gK G22 111 a0 (z_let (z_sR G22 1134 a0 (z_Z G21)) (fun G25 => (z_let (z_nG G25 1 ((5 : Int32)).toNatClampNeg) (fun G26 => (z_gK G26 1 (z_Z G25) (z_gK G26 111 a0 (z_let (z_sR G26 1138 a0 (z_Z G25)) (fun G29 => (z_let (z_nG G29 1 ((5 : Int32)).toNatClampNeg) (fun G30 => (z_gK G30 1 (z_Z G29) (z_gK G30 111 a0 (z_let (z_sR G30 1139 a0 (z_Z G29)) (fun G33 => (z_let (z_nG G33 2 ((5 : Int32)).toNatClampNeg) (fun G34 => (z_gK G34 2 (z_Z G33) (z_gK G34 111 a0 (z_let (z_sR G34 1140 a0 (z_Z G33)) (fun G37 => (z_let (z_nG G37 1 ((400 : Int32)).toNatClampNeg) (fun G38 => (z_gK G38 1 (z_Z G37) (z_gK G38 111 a0 (z_let (z_sR G38 1141 a0 (z_Z G37)) (fun G41 => (z_let (z_nG G41 2 ((400 : Int32)).toNatClampNeg) (fun G42 => (z_gK G42 2 (z_Z G41) (z_gK G42 111 a0 (z_let (z_sR G42 1142 a0 (z_Z G41)) (fun G45 => (z_let (z_nG G45 1 ((160 : Int32)).toNatClampNeg) (fun G46 => (z_gK G46 1 (z_Z G45) (z_gK G46 111 a0 (z_let (z_sR G46 1147 a0 (z_Z G45)) (fun G49 => (z_let (z_nG G49 1 ((400 : Int32)).toNatClampNeg) (fun G50 => (z_gK G50 1 (z_Z G49) (z_gK G50 111 a0 (z_let (z_sR G50 1155 a0 (z_Z G49)) (fun G53 => (z_let (z_nG G53 1 ((4 : Int32)).toNatClampNeg) (fun G54 => (z_gK G54 1 (z_Z G53) (z_gK G54 111 a0 (z_let (z_sR G54 1163 a0 (z_Z G53)) (fun G57 => (z_let (z_nG G57 1 ((4 : Int32)).toNatClampNeg) (fun G58 => (z_gK G58 1 (z_Z G57) (z_gK G58 111 a0 (z_let (z_sR G58 1164 a0 (z_Z G57)) (fun G61 => (z_let (z_nG G61 1 ((4 : Int32)).toNatClampNeg) (fun G62 => (z_gK G62 1 (z_Z G61) (z_gK G62 111 a0 (z_let (z_sR G62 1166 a0 (z_Z G61)) (fun G65 => (z_let (z_nG G65 1 ((4 : Int32)).toNatClampNeg) (fun G66 => (z_gK G66 1 (z_Z G65) (z_gK G66 111 a0 (z_let (z_sR G66 1167 a0 (z_Z G65)) (fun G69 => (z_let (z_nG G69 1 ((4 : Int32)).toNatClampNeg) (fun G70 => (z_gK G70 1 (z_Z G69) (z_gK G70 111 a0 (z_let (z_sR G70 1168 a0 (z_Z G69)) (fun G73 => (z_let (z_nG G73 1 ((120 : Int32)).toNatClampNeg) (fun G74 => (z_gK G74 1 (z_Z G73) (z_gK G74 111 a0 (z_let (z_sR G74 1169 a0 (z_Z G73)) (fun G77 => (z_gK G77 111 a0 (z_let (z_nG G77 1 ((4 : Int32)).toNatClampNeg) (fun G79 => (z_gA G79 1 (z_Z G77) (0 : Int32) (z_gA G79 1 (z_Z G77) (1 : Int32) (z_gA G79 1 (z_Z G77) (2 : Int32) (z_gA G79 1 (z_Z G77) (3 : Int32) (z_gK G79 1 (z_Z G77) (z_gK G79 111 a0 (z_let (z_sR G79 1173 a0 (z_Z G77)) (fun G90 => (z_let (z_nG G90 2 ((4 : Int32)).toNatClampNeg) (fun G91 => (z_gK G91 2 (z_Z G90) (z_gK G91 111 a0 (z_let (z_sR G91 1174 a0 (z_Z G90)) (fun G94 => ((if (1 : Int32) ≤ a1 then ((if a1 ≤ (1024 : Int32) then (z_gK G94 111 a0 (((z_loop (fun v => c_X11_init_223 G94 v.1 a0 v.2) 4000 ((z_sI (z_nD (z_sU (z_sU (z_sU (z_sU (z_nD (z_sI (z_nD (z_nD (z_nD (z_nD (z_nD (z_nD (z_nD (z_nD (z_nD (z_nD (z_nD (z_nD (z_nD (z_nD (z_nD (z_nD (z_nD (z_nD (z_sI (z_nD D (z_Z G)) 1106 a0 (-1 : Int32)) (z_Z G4)) (z_Z G9)) (z_Z G13)) (z_Z G17)) (z_Z G21)) (z_Z G25)) (z_Z G29)) (z_Z G33)) (z_Z G37)) (z_Z G41)) (z_Z G45)) (z_Z G49)) (z_Z G53)) (z_Z G57)) (z_Z G61)) (z_Z G65)) (z_Z G69)) (z_Z G73)) 1170 a0 (-2 : Int32)) (z_Z G77)) (z_Z G77) ((0 : Int32)).toNatClampNeg (0 : Int32)) (z_Z G77) ((1 : Int32)).toNatClampNeg (0 : Int32)) (z_Z G77) ((2 : Int32)).toNatClampNeg (1 : Int32)) (z_Z G77) ((3 : Int32)).toNatClampNeg (1 : Int32)) (z_Z G90)) 1101 a0 a1), (0 : Int32))).bind (fun e102 => ((z_loop (fun v => c_X11_init_247 G94 v.1 a0 v.2) 4000 (e102, (0 : Int32))).bind (fun e110 => (f_X11_slotDigest G94 e110 a0 (0 : Int32) (z_I e110 1101 a0)).bind (fun p113 => (((z_loop (fun v => c_X11_init_297 G94 v.1 a0 v.2) 4000 ((z_sJ p113.2 1102 a0 p113.1), (0 : Int32))).bind (fun e163 => (f_X11_layState G94 (z_sI e163 1115 a0 (0 : Int32)) a0).bind (fun D166 => ((f_X11_layPage G94 D166 a0 (0 : Int32)).bind (fun D168 => (((z_loop (fun v => c_X11_init_382 G94 v.1 a0 v.2) 4000 (D168, (0 : Int32))).bind (fun e176 => (some (G94, e176)))))))))))))))))) else ((z_gK G94 111 a0 (((z_loop (fun v => c_X11_init_223 G94 v.1 a0 v.2) 4000 ((z_sI (z_nD (z_sU (z_sU (z_sU (z_sU (z_nD (z_sI (z_nD (z_nD (z_nD (z_nD (z_nD (z_nD (z_nD (z_nD (z_nD (z_nD (z_nD (z_nD (z_nD (z_nD (z_nD (z_nD (z_nD (z_nD (z_sI (z_nD D (z_Z G)) 1106 a0 (-1 : Int32)) (z_Z G4)) (z_Z G9)) (z_Z G13)) (z_Z G17)) (z_Z G21)) (z_Z G25)) (z_Z G29)) (z_Z G33)) (z_Z G37)) (z_Z G41)) (z_Z G45)) (z_Z G49)) (z_Z G53)) (z_Z G57)) (z_Z G61)) (z_Z G65)) (z_Z G69)) (z_Z G73)) 1170 a0 (-2 : Int32)) (z_Z G77)) (z_Z G77) ((0 : Int32)).toNatClampNeg (0 : Int32)) (z_Z G77) ((1 : Int32)).toNatClampNeg (0 : Int32)) (z_Z G77) ((2 : Int32)).toNatClampNeg (1 : Int32)) (z_Z G77) ((3 : Int32)).toNatClampNeg (1 : Int32)) (z_Z G90)) 1101 a0 (1024 : Int32)), (0 : Int32))).bind (fun e179 => ((z_loop (fun v => c_X11_init_247 G94 v.1 a0 v.2) 4000 (e179, (0 : Int32))).bind (fun e181 => (f_X11_slotDigest G94 e181 a0 (0 : Int32) (z_I e181 1101 a0)).bind (fun p184 => (((z_loop (fun v => c_X11_init_297 G94 v.1 a0 v.2) 4000 ((z_sJ p184.2 1102 a0 p184.1), (0 : Int32))).bind (fun e185 => (f_X11_layState G94 (z_sI e185 1115 a0 (0 : Int32)) a0).bind (fun D188 => ((f_X11_layPage G94 D188 a0 (0 : Int32)).bind (fun D190 => (((z_loop (fun v => c_X11_init_382 G94 v.1 a0 v.2) 4000 (D190, (0 : Int32))).bind (fun e191 => (some (G94, e191))))))))))))))))))))) else ((z_gK G94 111 a0 (((z_loop (fun v => c_X11_init_223 G94 v.1 a0 v.2) 4000 ((z_sI (z_nD (z_sU (z_sU (z_sU (z_sU (z_nD (z_sI (z_nD (z_nD (z_nD (z_nD (z_nD (z_nD (z_nD (z_nD (z_nD (z_nD (z_nD (z_nD (z_nD (z_nD (z_nD (z_nD (z_nD (z_nD (z_sI (z_nD D (z_Z G)) 1106 a0 (-1 : Int32)) (z_Z G4)) (z_Z G9)) (z_Z G13)) (z_Z G17)) (z_Z G21)) (z_Z G25)) (z_Z G29)) (z_Z G33)) (z_Z G37)) (z_Z G41)) (z_Z G45)) (z_Z G49)) (z_Z G53)) (z_Z G57)) (z_Z G61)) (z_Z G65)) (z_Z G69)) (z_Z G73)) 1170 a0 (-2 : Int32)) (z_Z G77)) (z_Z G77) ((0 : Int32)).toNatClampNeg (0 : Int32)) (z_Z G77) ((1 : Int32)).toNatClampNeg (0 : Int32)) (z_Z G77) ((2 : Int32)).toNatClampNeg (1 : Int32)) (z_Z G77) ((3 : Int32)).toNatClampNeg (1 : Int32)) (z_Z G90)) 1101 a0 (1 : Int32)), (0 : Int32))).bind (fun e194 => ((z_loop (fun v => c_X11_init_247 G94 v.1 a0 v.2) 4000 (e194, (0 : Int32))).bind (fun e196 => (f_X11_slotDigest G94 e196 a0 (0 : Int32) (z_I e196 1101 a0)).bind (fun p199 => (((z_loop (fun v => c_X11_init_297 G94 v.1 a0 v.2) 4000 ((z_sJ p199.2 1102 a0 p199.1), (0 : Int32))).bind (fun e200 => (f_X11_layState G94 (z_sI e200 1115 a0 (0 : Int32)) a0).bind (fun D203 => ((f_X11_layPage G94 D203 a0 (0 : Int32)).bind (fun D205 => (((z_loop (fun v => c_X11_init_382 G94 v.1 a0 v.2) 4000 (D205, (0 : Int32))).bind (fun e206 => (some (G94, e206))))))))))))))))))))))))))))))))))))))))))))))))))))))))))))))))))))))))))))))))))))))))))))))))))))))))))))))))))))))))))))))))))))))))))))))))))))))))
set_option maxRecDepth 100000 in
set_option maxHeartbeats 4000000 in
theorem b_X11_init {q : z_Q} {X : z_X} {G : z_G} {D : z_D} {a0 : Nat} {a1 : Int32} {G1 : z_G} {D1 : z_D} (o : z_O q X cX11_init 3 "FlashTrustModel" "<init>" none) (hX : x_R X = z_rm 4 21 5691) (hK0 : z_K G a0 = 111) (h : f_X11_init G D a0 a1 = some (G1, D1)) : z_V q X 3 (z_F q X none G1 D1 21 5691) 0 0 G D 0 [(0, .ref (z_w q a0)), (1, .int a1)] [] := by
  unfold f_X11_init at h
  refine v_aload_n o dX11_init_0 rfl 0 rfl ?_
  refine v_objInit o ln_5_44 ob_inst ob_code hX (by decide) (Nat.le_of_ble_eq_true rfl) dX11_init_1 ?_
  refine v_aload_n o dX11_init_4 rfl 0 rfl ?_
  refine v_sipush o (3328 : Int32) dX11_init_5 (by decide) ?_
  refine v_newI o 3328 ac_int (by decide) (by decide) (by decide) hX (by decide) dX11_init_8 ?_
  replace h := z_let_of h
  generalize (z_nG G 1 ((3328 : Int32)).toNatClampNeg) = G1 at h ⊢
  obtain ⟨n2, h⟩ := z_gK_of h
  obtain ⟨n3, h⟩ := z_gK_of h
  refine pt_11_0 o (by rw [n2]; decide) n3 ln_5_95 rfl rfl dX11_init_10 ?_
  replace h := z_let_of h
  generalize (z_sR G1 1100 a0 (z_Z G)) = G4 at h ⊢
  refine v_aload_n o dX11_init_13 rfl 0 rfl ?_
  refine v_iconst o (-1 : Int32) dX11_init_14 (by decide) ?_
  obtain ⟨n5, h⟩ := z_gK_of h
  refine pt_11_6 o n5 ln_5_101 dX11_init_15 ?_
  refine v_aload_n o dX11_init_18 rfl 0 rfl ?_
  refine v_sipush o (400 : Int32) dX11_init_19 (by decide) ?_
  refine v_newI o 400 ac_int (by decide) (by decide) (by decide) hX (by decide) dX11_init_22 ?_
  replace h := z_let_of h
  generalize (z_nG G4 1 ((400 : Int32)).toNatClampNeg) = G6 at h ⊢
  obtain ⟨n7, h⟩ := z_gK_of h
  obtain ⟨n8, h⟩ := z_gK_of h
  refine pt_11_11 o (by rw [n7]; decide) n8 ln_5_106 rfl rfl dX11_init_24 ?_
  replace h := z_let_of h
  generalize (z_sR G6 1111 a0 (z_Z G4)) = G9 at h ⊢
  refine v_aload_n o dX11_init_27 rfl 0 rfl ?_
  refine v_bipush o (32 : Int32) dX11_init_28 (by decide) ?_
  refine v_newI o 32 ac_int (by decide) (by decide) (by decide) hX (by decide) dX11_init_30 ?_
  replace h := z_let_of h
  generalize (z_nG G9 1 ((32 : Int32)).toNatClampNeg) = G10 at h ⊢
  obtain ⟨n11, h⟩ := z_gK_of h
  obtain ⟨n12, h⟩ := z_gK_of h
  refine pt_11_13 o (by rw [n11]; decide) n12 ln_5_108 rfl rfl dX11_init_32 ?_
  replace h := z_let_of h
  generalize (z_sR G10 1113 a0 (z_Z G9)) = G13 at h ⊢
  refine v_aload_n o dX11_init_35 rfl 0 rfl ?_
  refine v_sipush o (400 : Int32) dX11_init_36 (by decide) ?_
  refine v_newI o 400 ac_int (by decide) (by decide) (by decide) hX (by decide) dX11_init_39 ?_
  replace h := z_let_of h
  generalize (z_nG G13 1 ((400 : Int32)).toNatClampNeg) = G14 at h ⊢
  obtain ⟨n15, h⟩ := z_gK_of h
  obtain ⟨n16, h⟩ := z_gK_of h
  refine pt_11_25 o (by rw [n15]; decide) n16 ln_5_120 rfl rfl dX11_init_41 ?_
  replace h := z_let_of h
  generalize (z_sR G14 1125 a0 (z_Z G13)) = G17 at h ⊢
  refine v_aload_n o dX11_init_44 rfl 0 rfl ?_
  refine v_iconst o (4 : Int32) dX11_init_45 (by decide) ?_
  refine v_newI o 4 ac_int (by decide) (by decide) (by decide) hX (by decide) dX11_init_46 ?_
  replace h := z_let_of h
  generalize (z_nG G17 1 ((4 : Int32)).toNatClampNeg) = G18 at h ⊢
  obtain ⟨n19, h⟩ := z_gK_of h
  obtain ⟨n20, h⟩ := z_gK_of h
  refine pt_11_33 o (by rw [n19]; decide) n20 ln_5_128 rfl rfl dX11_init_48 ?_
  replace h := z_let_of h
  generalize (z_sR G18 1133 a0 (z_Z G17)) = G21 at h ⊢
  refine v_aload_n o dX11_init_51 rfl 0 rfl ?_
  refine v_iconst o (4 : Int32) dX11_init_52 (by decide) ?_
  refine v_newI o 4 ac_int (by decide) (by decide) (by decide) hX (by decide) dX11_init_53 ?_
  replace h := z_let_of h
  generalize (z_nG G21 1 ((4 : Int32)).toNatClampNeg) = G22 at h ⊢
  obtain ⟨n23, h⟩ := z_gK_of h
  obtain ⟨n24, h⟩ := z_gK_of h
  refine pt_11_34 o (by rw [n23]; decide) n24 ln_5_129 rfl rfl dX11_init_55 ?_
  replace h := z_let_of h
  generalize (z_sR G22 1134 a0 (z_Z G21)) = G25 at h ⊢
  refine v_aload_n o dX11_init_58 rfl 0 rfl ?_
  refine v_iconst o (5 : Int32) dX11_init_59 (by decide) ?_
  refine v_newI o 5 ac_int (by decide) (by decide) (by decide) hX (by decide) dX11_init_60 ?_
  replace h := z_let_of h
  generalize (z_nG G25 1 ((5 : Int32)).toNatClampNeg) = G26 at h ⊢
  obtain ⟨n27, h⟩ := z_gK_of h
  obtain ⟨n28, h⟩ := z_gK_of h
  refine pt_11_38 o (by rw [n27]; decide) n28 ln_5_133 rfl rfl dX11_init_62 ?_
  replace h := z_let_of h
  generalize (z_sR G26 1138 a0 (z_Z G25)) = G29 at h ⊢
  refine v_aload_n o dX11_init_65 rfl 0 rfl ?_
  refine v_iconst o (5 : Int32) dX11_init_66 (by decide) ?_
  refine v_newI o 5 ac_int (by decide) (by decide) (by decide) hX (by decide) dX11_init_67 ?_
  replace h := z_let_of h
  generalize (z_nG G29 1 ((5 : Int32)).toNatClampNeg) = G30 at h ⊢
  obtain ⟨n31, h⟩ := z_gK_of h
  obtain ⟨n32, h⟩ := z_gK_of h
  refine pt_11_39 o (by rw [n31]; decide) n32 ln_5_134 rfl rfl dX11_init_69 ?_
  replace h := z_let_of h
  generalize (z_sR G30 1139 a0 (z_Z G29)) = G33 at h ⊢
  refine v_aload_n o dX11_init_72 rfl 0 rfl ?_
  refine v_iconst o (5 : Int32) dX11_init_73 (by decide) ?_
  refine v_newJ o 5 ac_long (by decide) (by decide) (by decide) hX (by decide) dX11_init_74 ?_
  replace h := z_let_of h
  generalize (z_nG G33 2 ((5 : Int32)).toNatClampNeg) = G34 at h ⊢
  obtain ⟨n35, h⟩ := z_gK_of h
  obtain ⟨n36, h⟩ := z_gK_of h
  refine pt_11_40 o (by rw [n35]; decide) n36 ln_5_135 rfl rfl dX11_init_76 ?_
  replace h := z_let_of h
  generalize (z_sR G34 1140 a0 (z_Z G33)) = G37 at h ⊢
  refine v_aload_n o dX11_init_79 rfl 0 rfl ?_
  refine v_sipush o (400 : Int32) dX11_init_80 (by decide) ?_
  refine v_newI o 400 ac_int (by decide) (by decide) (by decide) hX (by decide) dX11_init_83 ?_
  replace h := z_let_of h
  generalize (z_nG G37 1 ((400 : Int32)).toNatClampNeg) = G38 at h ⊢
  obtain ⟨n39, h⟩ := z_gK_of h
  obtain ⟨n40, h⟩ := z_gK_of h
  refine pt_11_41 o (by rw [n39]; decide) n40 ln_5_136 rfl rfl dX11_init_85 ?_
  replace h := z_let_of h
  generalize (z_sR G38 1141 a0 (z_Z G37)) = G41 at h ⊢
  refine v_aload_n o dX11_init_88 rfl 0 rfl ?_
  refine v_sipush o (400 : Int32) dX11_init_89 (by decide) ?_
  refine v_newJ o 400 ac_long (by decide) (by decide) (by decide) hX (by decide) dX11_init_92 ?_
  replace h := z_let_of h
  generalize (z_nG G41 2 ((400 : Int32)).toNatClampNeg) = G42 at h ⊢
  obtain ⟨n43, h⟩ := z_gK_of h
  obtain ⟨n44, h⟩ := z_gK_of h
  refine pt_11_42 o (by rw [n43]; decide) n44 ln_5_137 rfl rfl dX11_init_94 ?_
  replace h := z_let_of h
  generalize (z_sR G42 1142 a0 (z_Z G41)) = G45 at h ⊢
  refine v_aload_n o dX11_init_97 rfl 0 rfl ?_
  refine v_sipush o (160 : Int32) dX11_init_98 (by decide) ?_
  refine v_newI o 160 ac_int (by decide) (by decide) (by decide) hX (by decide) dX11_init_101 ?_
  replace h := z_let_of h
  generalize (z_nG G45 1 ((160 : Int32)).toNatClampNeg) = G46 at h ⊢
  obtain ⟨n47, h⟩ := z_gK_of h
  obtain ⟨n48, h⟩ := z_gK_of h
  refine pt_11_47 o (by rw [n47]; decide) n48 ln_5_142 rfl rfl dX11_init_103 ?_
  replace h := z_let_of h
  generalize (z_sR G46 1147 a0 (z_Z G45)) = G49 at h ⊢
  refine v_aload_n o dX11_init_106 rfl 0 rfl ?_
  refine v_sipush o (400 : Int32) dX11_init_107 (by decide) ?_
  refine v_newI o 400 ac_int (by decide) (by decide) (by decide) hX (by decide) dX11_init_110 ?_
  replace h := z_let_of h
  generalize (z_nG G49 1 ((400 : Int32)).toNatClampNeg) = G50 at h ⊢
  obtain ⟨n51, h⟩ := z_gK_of h
  obtain ⟨n52, h⟩ := z_gK_of h
  refine pt_11_55 o (by rw [n51]; decide) n52 ln_5_150 rfl rfl dX11_init_112 ?_
  replace h := z_let_of h
  generalize (z_sR G50 1155 a0 (z_Z G49)) = G53 at h ⊢
  refine v_aload_n o dX11_init_115 rfl 0 rfl ?_
  refine v_iconst o (4 : Int32) dX11_init_116 (by decide) ?_
  refine v_newI o 4 ac_int (by decide) (by decide) (by decide) hX (by decide) dX11_init_117 ?_
  replace h := z_let_of h
  generalize (z_nG G53 1 ((4 : Int32)).toNatClampNeg) = G54 at h ⊢
  obtain ⟨n55, h⟩ := z_gK_of h
  obtain ⟨n56, h⟩ := z_gK_of h
  refine pt_11_63 o (by rw [n55]; decide) n56 ln_5_158 rfl rfl dX11_init_119 ?_
  replace h := z_let_of h
  generalize (z_sR G54 1163 a0 (z_Z G53)) = G57 at h ⊢
  refine v_aload_n o dX11_init_122 rfl 0 rfl ?_
  refine v_iconst o (4 : Int32) dX11_init_123 (by decide) ?_
  refine v_newI o 4 ac_int (by decide) (by decide) (by decide) hX (by decide) dX11_init_124 ?_
  replace h := z_let_of h
  generalize (z_nG G57 1 ((4 : Int32)).toNatClampNeg) = G58 at h ⊢
  obtain ⟨n59, h⟩ := z_gK_of h
  obtain ⟨n60, h⟩ := z_gK_of h
  refine pt_11_64 o (by rw [n59]; decide) n60 ln_5_159 rfl rfl dX11_init_126 ?_
  replace h := z_let_of h
  generalize (z_sR G58 1164 a0 (z_Z G57)) = G61 at h ⊢
  refine v_aload_n o dX11_init_129 rfl 0 rfl ?_
  refine v_iconst o (4 : Int32) dX11_init_130 (by decide) ?_
  refine v_newI o 4 ac_int (by decide) (by decide) (by decide) hX (by decide) dX11_init_131 ?_
  replace h := z_let_of h
  generalize (z_nG G61 1 ((4 : Int32)).toNatClampNeg) = G62 at h ⊢
  obtain ⟨n63, h⟩ := z_gK_of h
  obtain ⟨n64, h⟩ := z_gK_of h
  refine pt_11_66 o (by rw [n63]; decide) n64 ln_5_161 rfl rfl dX11_init_133 ?_
  replace h := z_let_of h
  generalize (z_sR G62 1166 a0 (z_Z G61)) = G65 at h ⊢
  refine v_aload_n o dX11_init_136 rfl 0 rfl ?_
  refine v_iconst o (4 : Int32) dX11_init_137 (by decide) ?_
  refine v_newI o 4 ac_int (by decide) (by decide) (by decide) hX (by decide) dX11_init_138 ?_
  replace h := z_let_of h
  generalize (z_nG G65 1 ((4 : Int32)).toNatClampNeg) = G66 at h ⊢
  obtain ⟨n67, h⟩ := z_gK_of h
  obtain ⟨n68, h⟩ := z_gK_of h
  refine pt_11_67 o (by rw [n67]; decide) n68 ln_5_162 rfl rfl dX11_init_140 ?_
  replace h := z_let_of h
  generalize (z_sR G66 1167 a0 (z_Z G65)) = G69 at h ⊢
  refine v_aload_n o dX11_init_143 rfl 0 rfl ?_
  refine v_iconst o (4 : Int32) dX11_init_144 (by decide) ?_
  refine v_newI o 4 ac_int (by decide) (by decide) (by decide) hX (by decide) dX11_init_145 ?_
  replace h := z_let_of h
  generalize (z_nG G69 1 ((4 : Int32)).toNatClampNeg) = G70 at h ⊢
  obtain ⟨n71, h⟩ := z_gK_of h
  obtain ⟨n72, h⟩ := z_gK_of h
  refine pt_11_68 o (by rw [n71]; decide) n72 ln_5_163 rfl rfl dX11_init_147 ?_
  replace h := z_let_of h
  generalize (z_sR G70 1168 a0 (z_Z G69)) = G73 at h ⊢
  refine v_aload_n o dX11_init_150 rfl 0 rfl ?_
  refine v_bipush o (120 : Int32) dX11_init_151 (by decide) ?_
  refine v_newI o 120 ac_int (by decide) (by decide) (by decide) hX (by decide) dX11_init_153 ?_
  replace h := z_let_of h
  generalize (z_nG G73 1 ((120 : Int32)).toNatClampNeg) = G74 at h ⊢
  obtain ⟨n75, h⟩ := z_gK_of h
  obtain ⟨n76, h⟩ := z_gK_of h
  refine pt_11_69 o (by rw [n75]; decide) n76 ln_5_164 rfl rfl dX11_init_155 ?_
  replace h := z_let_of h
  generalize (z_sR G74 1169 a0 (z_Z G73)) = G77 at h ⊢
  refine v_aload_n o dX11_init_158 rfl 0 rfl ?_
  refine v_bipush o (-2 : Int32) dX11_init_159 (by decide) ?_
  obtain ⟨n78, h⟩ := z_gK_of h
  refine pt_11_70 o n78 ln_5_165 dX11_init_161 ?_
  refine v_aload_n o dX11_init_164 rfl 0 rfl ?_
  refine v_iconst o (4 : Int32) dX11_init_165 (by decide) ?_
  refine v_newI o 4 ac_int (by decide) (by decide) (by decide) hX (by decide) dX11_init_166 ?_
  replace h := z_let_of h
  generalize (z_nG G77 1 ((4 : Int32)).toNatClampNeg) = G79 at h ⊢
  refine v_dup o dX11_init_168 rfl ?_
  refine v_iconst o (0 : Int32) dX11_init_169 (by decide) ?_
  refine v_iconst o (0 : Int32) dX11_init_170 (by decide) ?_
  obtain ⟨n80, n81, h⟩ := z_gA_of h
  refine v_iast o n80 n81 dX11_init_171 ?_
  refine v_dup o dX11_init_172 rfl ?_
  refine v_iconst o (1 : Int32) dX11_init_173 (by decide) ?_
  refine v_iconst o (0 : Int32) dX11_init_174 (by decide) ?_
  obtain ⟨n82, n83, h⟩ := z_gA_of h
  refine v_iast o n82 n83 dX11_init_175 ?_
  refine v_dup o dX11_init_176 rfl ?_
  refine v_iconst o (2 : Int32) dX11_init_177 (by decide) ?_
  refine v_iconst o (1 : Int32) dX11_init_178 (by decide) ?_
  obtain ⟨n84, n85, h⟩ := z_gA_of h
  refine v_iast o n84 n85 dX11_init_179 ?_
  refine v_dup o dX11_init_180 rfl ?_
  refine v_iconst o (3 : Int32) dX11_init_181 (by decide) ?_
  refine v_iconst o (1 : Int32) dX11_init_182 (by decide) ?_
  obtain ⟨n86, n87, h⟩ := z_gA_of h
  refine v_iast o n86 n87 dX11_init_183 ?_
  obtain ⟨n88, h⟩ := z_gK_of h
  obtain ⟨n89, h⟩ := z_gK_of h
  refine pt_11_73 o (by rw [n88]; decide) n89 ln_5_168 rfl rfl dX11_init_184 ?_
  replace h := z_let_of h
  generalize (z_sR G79 1173 a0 (z_Z G77)) = G90 at h ⊢
  refine v_aload_n o dX11_init_187 rfl 0 rfl ?_
  refine v_iconst o (4 : Int32) dX11_init_188 (by decide) ?_
  refine v_newJ o 4 ac_long (by decide) (by decide) (by decide) hX (by decide) dX11_init_189 ?_
  replace h := z_let_of h
  generalize (z_nG G90 2 ((4 : Int32)).toNatClampNeg) = G91 at h ⊢
  obtain ⟨n92, h⟩ := z_gK_of h
  obtain ⟨n93, h⟩ := z_gK_of h
  refine pt_11_74 o (by rw [n92]; decide) n93 ln_5_169 rfl rfl dX11_init_191 ?_
  replace h := z_let_of h
  generalize (z_sR G91 1174 a0 (z_Z G90)) = G94 at h ⊢
  refine v_aload_n o dX11_init_194 rfl 0 rfl ?_
  refine v_iload_n o dX11_init_195 rfl 1 rfl ?_
  refine v_iconst o (1 : Int32) dX11_init_196 (by decide) ?_
  refine v_icmp_ge o 204 dX11_init_197 (by decide) (fun c95 => ?_) (fun c95 => ?_)
  · replace h := z_ip c95 h
    refine v_iload_n o dX11_init_204 rfl 1 rfl ?_
    refine v_sipush o (1024 : Int32) dX11_init_205 (by decide) ?_
    refine v_icmp_le o 217 dX11_init_208 (by decide) (fun c96 => ?_) (fun c96 => ?_)
    · replace h := z_ip c96 h
      refine v_iload_n o dX11_init_217 rfl 1 rfl ?_
      obtain ⟨n97, h⟩ := z_gK_of h
      refine pt_11_1 o n97 ln_5_96 rfl rfl dX11_init_218 ?_
      refine v_iconst o (0 : Int32) dX11_init_221 (by decide) ?_
      refine v_istore_n o [(2, .int (0 : Int32)), (0, .ref (z_w q a0)), (1, .int a1)] dX11_init_222 rfl (by decide) rfl ?_
      refine v_sub [1, 0] rfl ?_
      obtain ⟨e102, he103, h⟩ := z_bind h
      refine z_loopV (P := p_X11_init_223 q X _ G94 a0) (E := x_X11_init_223 q X _ G94 a0) (fun v ρ hb hk => tc_X11_init_223 (D := v.1) (a0 := a0) (a2 := v.2) o hX n97 hb hk) 4000 _ e102 he103 ?_
      show z_V q X 3 _ _ _ G94 e102 245 [(0, .ref (z_w q a0))] []
      refine v_iconst o (0 : Int32) dX11_init_245 (by decide) ?_
      refine v_istore_n o [(2, .int (0 : Int32)), (0, .ref (z_w q a0))] dX11_init_246 rfl (by decide) rfl ?_
      refine v_sub [1, 0] rfl ?_
      obtain ⟨e110, he111, h⟩ := z_bind h
      refine z_loopV (P := p_X11_init_247 q X _ G94 a0) (E := x_X11_init_247 q X _ G94 a0) (fun v ρ hb hk => tc_X11_init_247 (D := v.1) (a0 := a0) (a2 := v.2) o hX n97 hb hk) 4000 _ e110 he111 ?_
      show z_V q X 3 _ _ _ G94 e110 282 [(0, .ref (z_w q a0))] []
      refine v_aload_n o dX11_init_282 rfl 0 rfl ?_
      refine v_aload_n o dX11_init_283 rfl 0 rfl ?_
      refine v_iconst o (0 : Int32) dX11_init_284 (by decide) ?_
      refine v_aload_n o dX11_init_285 rfl 0 rfl ?_
      refine gt_11_1 o n97 ln_5_96 dX11_init_286 ?_
      obtain ⟨p113, he112, h⟩ := z_bind h
      refine v_callV o yw_X11_slotDigest ln_5_48 wi_X11_slotDigest ws_X11_slotDigest hX (by decide) 11 rfl n97 (As := [.int (0 : Int32), .int (z_I e110 1101 a0)]) rfl rfl (Nat.le_of_ble_eq_true rfl) (e_X11_slotDigest n97 he112) dX11_init_289 ?_
      refine pt_11_2 o n97 ln_5_97 rfl rfl dX11_init_292 ?_
      refine v_iconst o (0 : Int32) dX11_init_295 (by decide) ?_
      refine v_istore_n o [(2, .int (0 : Int32)), (0, .ref (z_w q a0))] dX11_init_296 rfl (by decide) rfl ?_
      refine v_sub [1, 0] rfl ?_
      obtain ⟨e163, he164, h⟩ := z_bind h
      refine z_loopV (P := p_X11_init_297 q X _ G94 a0) (E := x_X11_init_297 q X _ G94 a0) (fun v ρ hb hk => tc_X11_init_297 (D := v.1) (a0 := a0) (a2 := v.2) o hX n97 hb hk) 4000 _ e163 he164 ?_
      show z_V q X 3 _ _ _ G94 e163 366 [(0, .ref (z_w q a0))] []
      refine v_aload_n o dX11_init_366 rfl 0 rfl ?_
      refine v_iconst o (0 : Int32) dX11_init_367 (by decide) ?_
      refine pt_11_15 o n97 ln_5_110 dX11_init_368 ?_
      refine v_aload_n o dX11_init_371 rfl 0 rfl ?_
      obtain ⟨D166, he165, h⟩ := z_bind h
      refine v_callV o yw_X11_layState ln_5_63 wi_X11_layState ws_X11_layState hX (by decide) 11 rfl n97 (As := []) rfl rfl (Nat.le_of_ble_eq_true rfl) (e_X11_layState n97 he165) dX11_init_372 ?_
      refine v_aload_n o dX11_init_375 rfl 0 rfl ?_
      refine v_iconst o (0 : Int32) dX11_init_376 (by decide) ?_
      obtain ⟨D168, he167, h⟩ := z_bind h
      refine v_callV o yw_X11_layPage ln_5_87 wi_X11_layPage ws_X11_layPage hX (by decide) 11 rfl n97 (As := [.int (0 : Int32)]) rfl rfl (Nat.le_of_ble_eq_true rfl) (e_X11_layPage n97 he167) dX11_init_377 ?_
      refine v_iconst o (0 : Int32) dX11_init_380 (by decide) ?_
      refine v_istore_n o [(2, .int (0 : Int32)), (0, .ref (z_w q a0))] dX11_init_381 rfl (by decide) rfl ?_
      refine v_sub [1, 0] rfl ?_
      obtain ⟨e176, he177, h⟩ := z_bind h
      refine z_loopV (P := p_X11_init_382 q X _ G94 a0) (E := x_X11_init_382 q X _ G94 a0) (fun v ρ hb hk => tc_X11_init_382 (D := v.1) (a0 := a0) (a2 := v.2) o hX n97 hb hk) 4000 _ e176 he177 ?_
      show z_V q X 3 _ _ _ G94 e176 410 [] []
      obtain ⟨hr, hs⟩ := Prod.mk.inj (z_some h)
      subst hr
      subst hs
      refine v_widen (k1 := 21) (n1 := 5691) (by decide) (by decide) ?_
      exact v_return o dX11_init_410
    · replace h := z_in c96 h
      refine v_sipush o (1024 : Int32) dX11_init_211 (by decide) ?_
      refine v_goto o 218 dX11_init_214 (by decide) ?_
      obtain ⟨n178, h⟩ := z_gK_of h
      refine pt_11_1 o n178 ln_5_96 rfl rfl dX11_init_218 ?_
      refine v_iconst o (0 : Int32) dX11_init_221 (by decide) ?_
      refine v_istore_n o [(2, .int (0 : Int32)), (0, .ref (z_w q a0)), (1, .int a1)] dX11_init_222 rfl (by decide) rfl ?_
      refine v_sub [1, 0] rfl ?_
      obtain ⟨e179, he180, h⟩ := z_bind h
      refine z_loopV (P := p_X11_init_223 q X _ G94 a0) (E := x_X11_init_223 q X _ G94 a0) (fun v ρ hb hk => tc_X11_init_223 (D := v.1) (a0 := a0) (a2 := v.2) o hX n178 hb hk) 4000 _ e179 he180 ?_
      show z_V q X 3 _ _ _ G94 e179 245 [(0, .ref (z_w q a0))] []
      refine v_iconst o (0 : Int32) dX11_init_245 (by decide) ?_
      refine v_istore_n o [(2, .int (0 : Int32)), (0, .ref (z_w q a0))] dX11_init_246 rfl (by decide) rfl ?_
      refine v_sub [1, 0] rfl ?_
      obtain ⟨e181, he182, h⟩ := z_bind h
      refine z_loopV (P := p_X11_init_247 q X _ G94 a0) (E := x_X11_init_247 q X _ G94 a0) (fun v ρ hb hk => tc_X11_init_247 (D := v.1) (a0 := a0) (a2 := v.2) o hX n178 hb hk) 4000 _ e181 he182 ?_
      show z_V q X 3 _ _ _ G94 e181 282 [(0, .ref (z_w q a0))] []
      refine v_aload_n o dX11_init_282 rfl 0 rfl ?_
      refine v_aload_n o dX11_init_283 rfl 0 rfl ?_
      refine v_iconst o (0 : Int32) dX11_init_284 (by decide) ?_
      refine v_aload_n o dX11_init_285 rfl 0 rfl ?_
      refine gt_11_1 o n178 ln_5_96 dX11_init_286 ?_
      obtain ⟨p184, he183, h⟩ := z_bind h
      refine v_callV o yw_X11_slotDigest ln_5_48 wi_X11_slotDigest ws_X11_slotDigest hX (by decide) 11 rfl n178 (As := [.int (0 : Int32), .int (z_I e181 1101 a0)]) rfl rfl (Nat.le_of_ble_eq_true rfl) (e_X11_slotDigest n178 he183) dX11_init_289 ?_
      refine pt_11_2 o n178 ln_5_97 rfl rfl dX11_init_292 ?_
      refine v_iconst o (0 : Int32) dX11_init_295 (by decide) ?_
      refine v_istore_n o [(2, .int (0 : Int32)), (0, .ref (z_w q a0))] dX11_init_296 rfl (by decide) rfl ?_
      refine v_sub [1, 0] rfl ?_
      obtain ⟨e185, he186, h⟩ := z_bind h
      refine z_loopV (P := p_X11_init_297 q X _ G94 a0) (E := x_X11_init_297 q X _ G94 a0) (fun v ρ hb hk => tc_X11_init_297 (D := v.1) (a0 := a0) (a2 := v.2) o hX n178 hb hk) 4000 _ e185 he186 ?_
      show z_V q X 3 _ _ _ G94 e185 366 [(0, .ref (z_w q a0))] []
      refine v_aload_n o dX11_init_366 rfl 0 rfl ?_
      refine v_iconst o (0 : Int32) dX11_init_367 (by decide) ?_
      refine pt_11_15 o n178 ln_5_110 dX11_init_368 ?_
      refine v_aload_n o dX11_init_371 rfl 0 rfl ?_
      obtain ⟨D188, he187, h⟩ := z_bind h
      refine v_callV o yw_X11_layState ln_5_63 wi_X11_layState ws_X11_layState hX (by decide) 11 rfl n178 (As := []) rfl rfl (Nat.le_of_ble_eq_true rfl) (e_X11_layState n178 he187) dX11_init_372 ?_
      refine v_aload_n o dX11_init_375 rfl 0 rfl ?_
      refine v_iconst o (0 : Int32) dX11_init_376 (by decide) ?_
      obtain ⟨D190, he189, h⟩ := z_bind h
      refine v_callV o yw_X11_layPage ln_5_87 wi_X11_layPage ws_X11_layPage hX (by decide) 11 rfl n178 (As := [.int (0 : Int32)]) rfl rfl (Nat.le_of_ble_eq_true rfl) (e_X11_layPage n178 he189) dX11_init_377 ?_
      refine v_iconst o (0 : Int32) dX11_init_380 (by decide) ?_
      refine v_istore_n o [(2, .int (0 : Int32)), (0, .ref (z_w q a0))] dX11_init_381 rfl (by decide) rfl ?_
      refine v_sub [1, 0] rfl ?_
      obtain ⟨e191, he192, h⟩ := z_bind h
      refine z_loopV (P := p_X11_init_382 q X _ G94 a0) (E := x_X11_init_382 q X _ G94 a0) (fun v ρ hb hk => tc_X11_init_382 (D := v.1) (a0 := a0) (a2 := v.2) o hX n178 hb hk) 4000 _ e191 he192 ?_
      show z_V q X 3 _ _ _ G94 e191 410 [] []
      obtain ⟨hr, hs⟩ := Prod.mk.inj (z_some h)
      subst hr
      subst hs
      refine v_widen (k1 := 21) (n1 := 5691) (by decide) (by decide) ?_
      exact v_return o dX11_init_410
  · replace h := z_in c95 h
    refine v_iconst o (1 : Int32) dX11_init_200 (by decide) ?_
    refine v_goto o 218 dX11_init_201 (by decide) ?_
    obtain ⟨n193, h⟩ := z_gK_of h
    refine pt_11_1 o n193 ln_5_96 rfl rfl dX11_init_218 ?_
    refine v_iconst o (0 : Int32) dX11_init_221 (by decide) ?_
    refine v_istore_n o [(2, .int (0 : Int32)), (0, .ref (z_w q a0)), (1, .int a1)] dX11_init_222 rfl (by decide) rfl ?_
    refine v_sub [1, 0] rfl ?_
    obtain ⟨e194, he195, h⟩ := z_bind h
    refine z_loopV (P := p_X11_init_223 q X _ G94 a0) (E := x_X11_init_223 q X _ G94 a0) (fun v ρ hb hk => tc_X11_init_223 (D := v.1) (a0 := a0) (a2 := v.2) o hX n193 hb hk) 4000 _ e194 he195 ?_
    show z_V q X 3 _ _ _ G94 e194 245 [(0, .ref (z_w q a0))] []
    refine v_iconst o (0 : Int32) dX11_init_245 (by decide) ?_
    refine v_istore_n o [(2, .int (0 : Int32)), (0, .ref (z_w q a0))] dX11_init_246 rfl (by decide) rfl ?_
    refine v_sub [1, 0] rfl ?_
    obtain ⟨e196, he197, h⟩ := z_bind h
    refine z_loopV (P := p_X11_init_247 q X _ G94 a0) (E := x_X11_init_247 q X _ G94 a0) (fun v ρ hb hk => tc_X11_init_247 (D := v.1) (a0 := a0) (a2 := v.2) o hX n193 hb hk) 4000 _ e196 he197 ?_
    show z_V q X 3 _ _ _ G94 e196 282 [(0, .ref (z_w q a0))] []
    refine v_aload_n o dX11_init_282 rfl 0 rfl ?_
    refine v_aload_n o dX11_init_283 rfl 0 rfl ?_
    refine v_iconst o (0 : Int32) dX11_init_284 (by decide) ?_
    refine v_aload_n o dX11_init_285 rfl 0 rfl ?_
    refine gt_11_1 o n193 ln_5_96 dX11_init_286 ?_
    obtain ⟨p199, he198, h⟩ := z_bind h
    refine v_callV o yw_X11_slotDigest ln_5_48 wi_X11_slotDigest ws_X11_slotDigest hX (by decide) 11 rfl n193 (As := [.int (0 : Int32), .int (z_I e196 1101 a0)]) rfl rfl (Nat.le_of_ble_eq_true rfl) (e_X11_slotDigest n193 he198) dX11_init_289 ?_
    refine pt_11_2 o n193 ln_5_97 rfl rfl dX11_init_292 ?_
    refine v_iconst o (0 : Int32) dX11_init_295 (by decide) ?_
    refine v_istore_n o [(2, .int (0 : Int32)), (0, .ref (z_w q a0))] dX11_init_296 rfl (by decide) rfl ?_
    refine v_sub [1, 0] rfl ?_
    obtain ⟨e200, he201, h⟩ := z_bind h
    refine z_loopV (P := p_X11_init_297 q X _ G94 a0) (E := x_X11_init_297 q X _ G94 a0) (fun v ρ hb hk => tc_X11_init_297 (D := v.1) (a0 := a0) (a2 := v.2) o hX n193 hb hk) 4000 _ e200 he201 ?_
    show z_V q X 3 _ _ _ G94 e200 366 [(0, .ref (z_w q a0))] []
    refine v_aload_n o dX11_init_366 rfl 0 rfl ?_
    refine v_iconst o (0 : Int32) dX11_init_367 (by decide) ?_
    refine pt_11_15 o n193 ln_5_110 dX11_init_368 ?_
    refine v_aload_n o dX11_init_371 rfl 0 rfl ?_
    obtain ⟨D203, he202, h⟩ := z_bind h
    refine v_callV o yw_X11_layState ln_5_63 wi_X11_layState ws_X11_layState hX (by decide) 11 rfl n193 (As := []) rfl rfl (Nat.le_of_ble_eq_true rfl) (e_X11_layState n193 he202) dX11_init_372 ?_
    refine v_aload_n o dX11_init_375 rfl 0 rfl ?_
    refine v_iconst o (0 : Int32) dX11_init_376 (by decide) ?_
    obtain ⟨D205, he204, h⟩ := z_bind h
    refine v_callV o yw_X11_layPage ln_5_87 wi_X11_layPage ws_X11_layPage hX (by decide) 11 rfl n193 (As := [.int (0 : Int32)]) rfl rfl (Nat.le_of_ble_eq_true rfl) (e_X11_layPage n193 he204) dX11_init_377 ?_
    refine v_iconst o (0 : Int32) dX11_init_380 (by decide) ?_
    refine v_istore_n o [(2, .int (0 : Int32)), (0, .ref (z_w q a0))] dX11_init_381 rfl (by decide) rfl ?_
    refine v_sub [1, 0] rfl ?_
    obtain ⟨e206, he207, h⟩ := z_bind h
    refine z_loopV (P := p_X11_init_382 q X _ G94 a0) (E := x_X11_init_382 q X _ G94 a0) (fun v ρ hb hk => tc_X11_init_382 (D := v.1) (a0 := a0) (a2 := v.2) o hX n193 hb hk) 4000 _ e206 he207 ?_
    show z_V q X 3 _ _ _ G94 e206 410 [] []
    obtain ⟨hr, hs⟩ := Prod.mk.inj (z_some h)
    subst hr
    subst hs
    refine v_widen (k1 := 21) (n1 := 5691) (by decide) (by decide) ?_
    exact v_return o dX11_init_410
theorem e_X11_init {q : z_Q} {l : Launch} {G : z_G} {D : z_D} {a0 : Nat} {a1 : Int32} {G1 : z_G} {D1 : z_D} (hK0 : z_K G a0 = 111) (h : f_X11_init G D a0 a1 = some (G1, D1)) : z_E q l yX11_init cX11_init 3 none 4 21 5691 [.ref (z_w q a0), .int a1] G D none G1 D1 :=
  z_E.of (by decide) (Nat.le_of_ble_eq_true rfl) (fun X hX _ o => b_X11_init o hX hK0 h)
