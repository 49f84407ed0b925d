def f_X11_goToList (G : z_G) (D : z_D) (a0 : Nat) : Option (Int32 × z_D) :=
  (f_X11_takeTrusted G D a0 (1 : Int32)).bind (fun p2 => ((f_X11_takeTrusted G (z_sI p2.2 1148 a0 (3 : Int32)) a0 (2 : Int32)).bind (fun p4 => ((if p4.1 = (0 : Int32) then ((some ((3 : Int32), p4.2))) else ((f_X11_bodyDigest G p4.2 a0).bind (fun p7 => ((if (lg_cmp p7.1 (z_J p2.2 1136 a0)) = (0 : Int32) then ((f_X11_saveCame G p7.2 a0).bind (fun D10 => ((f_X11_takeList G D10 a0).bind (fun p12 => ((some (p12.1, p12.2))))))) else ((some ((3 : Int32), p7.2))))))))))))
set_option maxRecDepth 100000 in
set_option maxHeartbeats 4000000 in
theorem b_X11_goToList {q : z_Q} {X : z_X} {G : z_G} {D : z_D} {a0 : Nat} {r : Int32} {D1 : z_D} (o : z_O q X cX11_goToList 4 "FlashTrustModel" "goToList" (some .int)) (hX : x_R X = z_rm 12 0 0) (hK0 : z_K G a0 = 111) (h : f_X11_goToList G D a0 = some (r, D1)) : z_V q X 4 (z_F q X (some (.int r)) G D1 0 0) 0 0 G D 0 [(0, .ref (z_w q a0))] [] := by
  unfold f_X11_goToList at h
  refine v_aload_n o dX11_goToList_0 rfl 0 rfl ?_
  refine v_iconst o (1 : Int32) dX11_goToList_1 (by decide) ?_
  obtain ⟨p2, he1, h⟩ := z_bind h
  refine v_callV o yw_X11_takeTrusted ln_6_170 wi_X11_takeTrusted ws_X11_takeTrusted hX (by decide) 11 rfl hK0 (As := [.int (1 : Int32)]) rfl rfl (Nat.le_of_ble_eq_true rfl) (e_X11_takeTrusted hK0 he1) dX11_goToList_2 ?_
  refine v_istore_n o [(1, .int p2.1), (0, .ref (z_w q a0))] dX11_goToList_5 rfl (by decide) rfl ?_
  refine v_aload_n o dX11_goToList_6 rfl 1 rfl ?_
  refine gt_11_36 o hK0 ln_5_131 dX11_goToList_7 ?_
  refine v_lstore_n o [(2, .long (z_J p2.2 1136 a0)), (1, .int p2.1), (0, .ref (z_w q a0))] dX11_goToList_10 rfl (by decide) rfl ?_
  refine v_aload_n o dX11_goToList_11 rfl 2 rfl ?_
  refine v_iconst o (3 : Int32) dX11_goToList_12 (by decide) ?_
  refine pt_11_48 o hK0 ln_5_143 dX11_goToList_13 ?_
  refine v_aload_n o dX11_goToList_16 rfl 2 rfl ?_
  refine v_iconst o (2 : Int32) dX11_goToList_17 (by decide) ?_
  obtain ⟨p4, he3, h⟩ := z_bind h
  refine v_callV o yw_X11_takeTrusted ln_6_170 wi_X11_takeTrusted ws_X11_takeTrusted hX (by decide) 11 rfl hK0 (As := [.int (2 : Int32)]) rfl rfl (Nat.le_of_ble_eq_true rfl) (e_X11_takeTrusted hK0 he3) dX11_goToList_18 ?_
  refine v_if_eq o 33 dX11_goToList_21 (by decide) (fun c5 => ?_) (fun c5 => ?_)
  · replace h := z_ip c5 h
    refine v_iconst o (3 : Int32) dX11_goToList_33 (by decide) ?_
    obtain ⟨hr, hs⟩ := Prod.mk.inj (z_some h)
    subst hr
    subst hs
    exact v_ireturn o dX11_goToList_34
  · replace h := z_in c5 h
    refine v_aload_n o dX11_goToList_24 rfl 2 rfl ?_
    obtain ⟨p7, he6, h⟩ := z_bind h
    refine v_callV o yw_X11_bodyDigest ln_6_191 wi_X11_bodyDigest ws_X11_bodyDigest hX (by decide) 11 rfl hK0 (As := []) rfl rfl (Nat.le_of_ble_eq_true rfl) (e_X11_bodyDigest hK0 he6) dX11_goToList_25 ?_
    refine v_lload_n o dX11_goToList_28 rfl 0 rfl ?_
    refine v_lcmp o dX11_goToList_29 ?_
    refine v_if_eq o 35 dX11_goToList_30 (by decide) (fun c8 => ?_) (fun c8 => ?_)
    · replace h := z_ip c8 h
      refine v_aload_n o dX11_goToList_35 rfl 2 rfl ?_
      obtain ⟨D10, he9, h⟩ := z_bind h
      refine v_callV o yw_X11_saveCame ln_6_231 wi_X11_saveCame ws_X11_saveCame hX (by decide) 11 rfl hK0 (As := []) rfl rfl (Nat.le_of_ble_eq_true rfl) (e_X11_saveCame hK0 he9) dX11_goToList_36 ?_
      refine v_aload_n o dX11_goToList_39 rfl 2 rfl ?_
      obtain ⟨p12, he11, h⟩ := z_bind h
      refine v_callV o yw_X11_takeList ln_6_235 wi_X11_takeList ws_X11_takeList hX (by decide) 11 rfl hK0 (As := []) rfl rfl (Nat.le_of_ble_eq_true rfl) (e_X11_takeList hK0 he11) dX11_goToList_40 ?_
      obtain ⟨hr, hs⟩ := Prod.mk.inj (z_some h)
      subst hr
      subst hs
      exact v_ireturn o dX11_goToList_43
    · replace h := z_in c8 h
      refine v_iconst o (3 : Int32) dX11_goToList_33 (by decide) ?_
      obtain ⟨hr, hs⟩ := Prod.mk.inj (z_some h)
      subst hr
      subst hs
      exact v_ireturn o dX11_goToList_34
theorem e_X11_goToList {q : z_Q} {l : Launch} {G : z_G} {D : z_D} {a0 : Nat} {r : Int32} {D1 : z_D} (hK0 : z_K G a0 = 111) (h : f_X11_goToList G D a0 = some (r, D1)) : z_E q l yX11_goToList cX11_goToList 4 (some .int) 12 0 0 [.ref (z_w q a0)] G D (some (.int r)) G D1 :=
  z_E.of (by decide) (Nat.le_of_ble_eq_true rfl) (fun X hX _ o => b_X11_goToList o hX hK0 h)
def f_X11_takeTime (G : z_G) (D : z_D) (a0 : Nat) : Option (Int32 × z_D) :=
  (f_X11_takeRole G D a0 (1 : Int32)).bind (fun D2 => ((f_X11_takeWas G D2 a0 (1 : Int32)).bind (fun D4 => ((f_X11_takeCame G D4 a0).bind (fun D6 => ((f_X11_has G D6 a0 (z_I D6 1157 a0) (z_I D6 1158 a0)).bind (fun p8 => ((if p8.1 = (0 : Int32) then ((f_X11_fail G p8.2 a0 (2 : Int32)).bind (fun p25 => ((some (p25.1, p25.2))))) else ((if (z_I p8.2 1160 a0) ≤ (z_I p8.2 1131 a0) then ((if (z_I p8.2 1161 a0) ≤ (z_I p8.2 1135 a0) then ((if (0 : Int32) < (lg_cmp (z_J p8.2 1132 a0) (((z_I p8.2 1149 a0)).toInt64)) then ((f_X11_keepOther G p8.2 a0 (1 : Int32)).bind (fun D14 => ((if (z_I D14 1103 a0) = (0 : Int32) then ((f_X11_goToList G D14 a0).bind (fun p17 => ((some (p17.1, p17.2))))) else (((some ((-3 : Int32), D14)))))))) else ((f_X11_fail G p8.2 a0 (4 : Int32)).bind (fun p19 => ((some (p19.1, p19.2))))))) else ((f_X11_fail G p8.2 a0 (10 : Int32)).bind (fun p21 => ((some (p21.1, p21.2))))))) else ((f_X11_fail G p8.2 a0 (3 : Int32)).bind (fun p23 => ((some (p23.1, p23.2))))))))))))))))
set_option maxRecDepth 100000 in
set_option maxHeartbeats 4000000 in
theorem b_X11_takeTime {q : z_Q} {X : z_X} {G : z_G} {D : z_D} {a0 : Nat} {r : Int32} {D1 : z_D} (o : z_O q X cX11_takeTime 1 "FlashTrustModel" "takeTime" (some .int)) (hX : x_R X = z_rm 13 0 0) (hK0 : z_K G a0 = 111) (h : f_X11_takeTime G D a0 = some (r, D1)) : z_V q X 1 (z_F q X (some (.int r)) G D1 0 0) 0 0 G D 0 [(0, .ref (z_w q a0))] [] := by
  unfold f_X11_takeTime at h
  refine v_aload_n o dX11_takeTime_0 rfl 0 rfl ?_
  refine v_iconst o (1 : Int32) dX11_takeTime_1 (by decide) ?_
  obtain ⟨D2, he1, h⟩ := z_bind h
  refine v_callV o yw_X11_takeRole ln_6_215 wi_X11_takeRole ws_X11_takeRole hX (by decide) 11 rfl hK0 (As := [.int (1 : Int32)]) rfl rfl (Nat.le_of_ble_eq_true rfl) (e_X11_takeRole hK0 he1) dX11_takeTime_2 ?_
  refine v_aload_n o dX11_takeTime_5 rfl 0 rfl ?_
  refine v_iconst o (1 : Int32) dX11_takeTime_6 (by decide) ?_
  obtain ⟨D4, he3, h⟩ := z_bind h
  refine v_callV o yw_X11_takeWas ln_6_219 wi_X11_takeWas ws_X11_takeWas hX (by decide) 11 rfl hK0 (As := [.int (1 : Int32)]) rfl rfl (Nat.le_of_ble_eq_true rfl) (e_X11_takeWas hK0 he3) dX11_takeTime_7 ?_
  refine v_aload_n o dX11_takeTime_10 rfl 0 rfl ?_
  obtain ⟨D6, he5, h⟩ := z_bind h
  refine v_callV o yw_X11_takeCame ln_6_183 wi_X11_takeCame ws_X11_takeCame hX (by decide) 11 rfl hK0 (As := []) rfl rfl (Nat.le_of_ble_eq_true rfl) (e_X11_takeCame hK0 he5) dX11_takeTime_11 ?_
  refine v_aload_n o dX11_takeTime_14 rfl 0 rfl ?_
  refine v_aload_n o dX11_takeTime_15 rfl 0 rfl ?_
  refine gt_11_57 o hK0 ln_5_152 dX11_takeTime_16 ?_
  refine v_aload_n o dX11_takeTime_19 rfl 0 rfl ?_
  refine gt_11_58 o hK0 ln_5_153 dX11_takeTime_20 ?_
  obtain ⟨p8, he7, h⟩ := z_bind h
  refine v_callV o yw_X11_has ln_6_187 wi_X11_has ws_X11_has hX (by decide) 11 rfl hK0 (As := [.int (z_I D6 1157 a0), .int (z_I D6 1158 a0)]) rfl rfl (Nat.le_of_ble_eq_true rfl) (e_X11_has hK0 he7) dX11_takeTime_23 ?_
  refine v_if_ne o 35 dX11_takeTime_26 (by decide) (fun c9 => ?_) (fun c9 => ?_)
  · replace h := z_in c9 h
    refine v_aload_n o dX11_takeTime_35 rfl 0 rfl ?_
    refine gt_11_31 o hK0 ln_5_126 dX11_takeTime_36 ?_
    refine v_aload_n o dX11_takeTime_39 rfl 0 rfl ?_
    refine gt_11_60 o hK0 ln_5_155 dX11_takeTime_40 ?_
    refine v_icmp_ge o 52 dX11_takeTime_43 (by decide) (fun c10 => ?_) (fun c10 => ?_)
    · replace h := z_ip c10 h
      refine v_aload_n o dX11_takeTime_52 rfl 0 rfl ?_
      refine gt_11_35 o hK0 ln_5_130 dX11_takeTime_53 ?_
      refine v_aload_n o dX11_takeTime_56 rfl 0 rfl ?_
      refine gt_11_61 o hK0 ln_5_156 dX11_takeTime_57 ?_
      refine v_icmp_ge o 70 dX11_takeTime_60 (by decide) (fun c11 => ?_) (fun c11 => ?_)
      · replace h := z_ip c11 h
        refine v_aload_n o dX11_takeTime_70 rfl 0 rfl ?_
        refine gt_11_32 o hK0 ln_5_127 dX11_takeTime_71 ?_
        refine v_aload_n o dX11_takeTime_74 rfl 0 rfl ?_
        refine gt_11_49 o hK0 ln_5_144 dX11_takeTime_75 ?_
        refine v_i2l o dX11_takeTime_78 ?_
        refine v_lcmp o dX11_takeTime_79 ?_
        refine v_if_gt o 89 dX11_takeTime_80 (by decide) (fun c12 => ?_) (fun c12 => ?_)
        · replace h := z_ip c12 h
          refine v_aload_n o dX11_takeTime_89 rfl 0 rfl ?_
          refine v_iconst o (1 : Int32) dX11_takeTime_90 (by decide) ?_
          obtain ⟨D14, he13, h⟩ := z_bind h
          refine v_callV o yw_X11_keepOther ln_6_223 wi_X11_keepOther ws_X11_keepOther hX (by decide) 11 rfl hK0 (As := [.int (1 : Int32)]) rfl rfl (Nat.le_of_ble_eq_true rfl) (e_X11_keepOther hK0 he13) dX11_takeTime_91 ?_
          refine v_aload_n o dX11_takeTime_94 rfl 0 rfl ?_
          refine gt_11_3 o hK0 ln_5_98 dX11_takeTime_95 ?_
          refine v_if_eq o 106 dX11_takeTime_98 (by decide) (fun c15 => ?_) (fun c15 => ?_)
          · replace h := z_ip c15 h
            refine v_aload_n o dX11_takeTime_106 rfl 0 rfl ?_
            obtain ⟨p17, he16, h⟩ := z_bind h
            refine v_callV o yw_X11_goToList ln_6_227 wi_X11_goToList ws_X11_goToList hX (by decide) 11 rfl hK0 (As := []) rfl rfl (Nat.le_of_ble_eq_true rfl) (e_X11_goToList hK0 he16) dX11_takeTime_107 ?_
            obtain ⟨hr, hs⟩ := Prod.mk.inj (z_some h)
            subst hr
            subst hs
            exact v_ireturn o dX11_takeTime_110
          · replace h := z_in c15 h
            refine v_bipush o (-3 : Int32) dX11_takeTime_101 (by decide) ?_
            refine v_goto o 110 dX11_takeTime_103 (by decide) ?_
            obtain ⟨hr, hs⟩ := Prod.mk.inj (z_some h)
            subst hr
            subst hs
            exact v_ireturn o dX11_takeTime_110
        · replace h := z_in c12 h
          refine v_aload_n o dX11_takeTime_83 rfl 0 rfl ?_
          refine v_iconst o (4 : Int32) dX11_takeTime_84 (by decide) ?_
          obtain ⟨p19, he18, h⟩ := z_bind h
          refine v_callV o yw_X11_fail ln_6_117 wi_X11_fail ws_X11_fail hX (by decide) 11 rfl hK0 (As := [.int (4 : Int32)]) rfl rfl (Nat.le_of_ble_eq_true rfl) (e_X11_fail hK0 he18) dX11_takeTime_85 ?_
          obtain ⟨hr, hs⟩ := Prod.mk.inj (z_some h)
          subst hr
          subst hs
          exact v_ireturn o dX11_takeTime_88
      · replace h := z_in c11 h
        refine v_aload_n o dX11_takeTime_63 rfl 0 rfl ?_
        refine v_bipush o (10 : Int32) dX11_takeTime_64 (by decide) ?_
        obtain ⟨p21, he20, h⟩ := z_bind h
        refine v_callV o yw_X11_fail ln_6_117 wi_X11_fail ws_X11_fail hX (by decide) 11 rfl hK0 (As := [.int (10 : Int32)]) rfl rfl (Nat.le_of_ble_eq_true rfl) (e_X11_fail hK0 he20) dX11_takeTime_66 ?_
        obtain ⟨hr, hs⟩ := Prod.mk.inj (z_some h)
        subst hr
        subst hs
        exact v_ireturn o dX11_takeTime_69
    · replace h := z_in c10 h
      refine v_aload_n o dX11_takeTime_46 rfl 0 rfl ?_
      refine v_iconst o (3 : Int32) dX11_takeTime_47 (by decide) ?_
      obtain ⟨p23, he22, h⟩ := z_bind h
      refine v_callV o yw_X11_fail ln_6_117 wi_X11_fail ws_X11_fail hX (by decide) 11 rfl hK0 (As := [.int (3 : Int32)]) rfl rfl (Nat.le_of_ble_eq_true rfl) (e_X11_fail hK0 he22) dX11_takeTime_48 ?_
      obtain ⟨hr, hs⟩ := Prod.mk.inj (z_some h)
      subst hr
      subst hs
      exact v_ireturn o dX11_takeTime_51
  · replace h := z_ip c9 h
    refine v_aload_n o dX11_takeTime_29 rfl 0 rfl ?_
    refine v_iconst o (2 : Int32) dX11_takeTime_30 (by decide) ?_
    obtain ⟨p25, he24, h⟩ := z_bind h
    refine v_callV o yw_X11_fail ln_6_117 wi_X11_fail ws_X11_fail hX (by decide) 11 rfl hK0 (As := [.int (2 : Int32)]) rfl rfl (Nat.le_of_ble_eq_true rfl) (e_X11_fail hK0 he24) dX11_takeTime_31 ?_
    obtain ⟨hr, hs⟩ := Prod.mk.inj (z_some h)
    subst hr
    subst hs
    exact v_ireturn o dX11_takeTime_34
theorem e_X11_takeTime {q : z_Q} {l : Launch} {G : z_G} {D : z_D} {a0 : Nat} {r : Int32} {D1 : z_D} (hK0 : z_K G a0 = 111) (h : f_X11_takeTime G D a0 = some (r, D1)) : z_E q l yX11_takeTime cX11_takeTime 1 (some .int) 13 0 0 [.ref (z_w q a0)] G D (some (.int r)) G D1 :=
  z_E.of (by decide) (Nat.le_of_ble_eq_true rfl) (fun X hX _ o => b_X11_takeTime o hX hK0 h)
def p_X11_answer_59 (q : z_Q) (X : z_X) (Q : State → Prop) (G : z_G) (a0 : Nat) (a1 : Int32) : (z_D × Int32) → Prop := (fun v => z_V q X 4 Q 0 0 G v.1 59 [(0, .ref (z_w q a0)), (1, .int a1), (3, .int v.2)] [])
def x_X11_answer_59 (q : z_Q) (X : z_X) (Q : State → Prop) (G : z_G) (a0 : Nat) (a1 : Int32) : z_D → Prop := (fun v => z_V q X 4 Q 0 0 G v 94 [(0, .ref (z_w q a0))] [])
def k_X11_answer_59 (q : z_Q) (X : z_X) (Q : State → Prop) (G : z_G) (a0 : Nat) (a1 : Int32) : (z_D × Int32) ⊕ z_D → Prop := Sum.elim (p_X11_answer_59 q X Q G a0 a1) (x_X11_answer_59 q X Q G a0 a1)
def c_X11_answer_59 (G : z_G) (D : z_D) (a0 : Nat) (a1 : Int32) (a3 : Int32) : Option ((z_D × Int32) ⊕ z_D) :=
  (if a1 ≤ a3 then (some (.inr D)) else (z_gK G 1 (z_R G 1125 a0) (z_gK G 1 (z_R G 1111 a0) (z_gA G 1 (z_R G 1111 a0) a3 (z_gA G 1 (z_R G 1125 a0) a3 (z_gK G 1 (z_R G 1155 a0) (z_gA G 1 (z_R G 1111 a0) a3 (z_gA G 1 (z_R G 1155 a0) a3 ((some (.inl ((z_sU (z_sU D (z_R G 1125 a0) (a3).toNatClampNeg (z_U D (z_R G 1111 a0) (a3).toNatClampNeg)) (z_R G 1155 a0) (a3).toNatClampNeg (z_U (z_sU D (z_R G 1125 a0) (a3).toNatClampNeg (z_U D (z_R G 1111 a0) (a3).toNatClampNeg)) (z_R G 1111 a0) (a3).toNatClampNeg)), (a3 + (1 : Int32))))))))))))))
set_option maxRecDepth 100000 in
set_option maxHeartbeats 4000000 in
theorem tc_X11_answer_59 {q : z_Q} {X : z_X} {G : z_G} {D : z_D} {Q : State → Prop} {a0 : Nat} {a1 : Int32} {a3 : Int32} (o : z_O q X cX11_answer 4 "FlashTrustModel" "answer" (some .int)) (hX : x_R X = z_rm 14 0 0) (hK0 : z_K G a0 = 111) {ρ : (z_D × Int32) ⊕ z_D} (h : c_X11_answer_59 G D a0 a1 a3 = some ρ) (hk : k_X11_answer_59 q X Q G a0 a1 ρ) : z_V q X 4 Q 0 0 G D 59 [(0, .ref (z_w q a0)), (1, .int a1), (3, .int a3)] [] := by
  unfold c_X11_answer_59 at h
  refine v_iload_n o dX11_answer_59 rfl 2 rfl ?_
  refine v_iload_n o dX11_answer_60 rfl 1 rfl ?_
  refine v_icmp_ge o 94 dX11_answer_61 (by decide) (fun c4 => ?_) (fun c4 => ?_)
  · replace h := z_ip c4 h
    obtain rfl := z_some h
    refine v_sub [0] rfl ?_
    exact hk
  · replace h := z_in c4 h
    refine v_aload_n o dX11_answer_64 rfl 0 rfl ?_
    obtain ⟨n5, h⟩ := z_gK_of h
    refine gt_11_25 o hK0 ln_5_120 (by rw [n5]; decide) dX11_answer_65 ?_
    refine v_iload_n o dX11_answer_68 rfl 2 rfl ?_
    refine v_aload_n o dX11_answer_69 rfl 0 rfl ?_
    obtain ⟨n6, h⟩ := z_gK_of h
    refine gt_11_11 o hK0 ln_5_106 (by rw [n6]; decide) dX11_answer_70 ?_
    refine v_iload_n o dX11_answer_73 rfl 2 rfl ?_
    obtain ⟨n7, n8, h⟩ := z_gA_of h
    refine v_iald o n7 n8 dX11_answer_74 ?_
    obtain ⟨n9, n10, h⟩ := z_gA_of h
    refine v_iast o n9 n10 dX11_answer_75 ?_
    refine v_aload_n o dX11_answer_76 rfl 0 rfl ?_
    obtain ⟨n11, h⟩ := z_gK_of h
    refine gt_11_55 o hK0 ln_5_150 (by rw [n11]; decide) dX11_answer_77 ?_
    refine v_iload_n o dX11_answer_80 rfl 2 rfl ?_
    refine v_aload_n o dX11_answer_81 rfl 0 rfl ?_
    refine gt_11_11 o hK0 ln_5_106 (by rw [n6]; decide) dX11_answer_82 ?_
    refine v_iload_n o dX11_answer_85 rfl 2 rfl ?_
    obtain ⟨n12, n13, h⟩ := z_gA_of h
    refine v_iald o n12 n13 dX11_answer_86 ?_
    obtain ⟨n14, n15, h⟩ := z_gA_of h
    refine v_iast o n14 n15 dX11_answer_87 ?_
    refine v_iinc o (a3 + (1 : Int32)) [(3, .int (a3 + (1 : Int32))), (0, .ref (z_w q a0)), (1, .int a1)] dX11_answer_88 2 rfl rfl (by decide) rfl ?_
    refine v_goto o 59 dX11_answer_91 (by decide) ?_
    obtain rfl := z_some h
    refine v_sub [1, 2, 0] rfl ?_
    exact hk
def j_X11_answer_172 (G : z_G) (D : z_D) (a0 : Nat) (a2 : Int32)  : Option (Int32 × z_D) :=
  (if (z_I D 1103 a0) = (0 : Int32) then ((some (a2, D))) else (((some ((-3 : Int32), D)))))
set_option maxRecDepth 100000 in
set_option maxHeartbeats 4000000 in
theorem tj_X11_answer_172 {q : z_Q} {X : z_X} {G : z_G} {D : z_D} {a0 : Nat} {a2 : Int32}  {r : Int32} {D1 : z_D} (o : z_O q X cX11_answer 4 "FlashTrustModel" "answer" (some .int)) (hX : x_R X = z_rm 14 0 0) (hK0 : z_K G a0 = 111) (h : j_X11_answer_172 G D a0 a2  = some (r, D1)) : z_V q X 4 (z_F q X (some (.int r)) G D1 0 0) 0 0 G D 172 [(0, .ref (z_w q a0)), (2, .int a2)] [] := by
  unfold j_X11_answer_172 at h
  refine v_aload_n o dX11_answer_172 rfl 0 rfl ?_
  refine gt_11_3 o hK0 ln_5_98 dX11_answer_173 ?_
  refine v_if_eq o 184 dX11_answer_176 (by decide) (fun c23 => ?_) (fun c23 => ?_)
  · replace h := z_ip c23 h
    refine v_iload_n o dX11_answer_184 rfl 1 rfl ?_
    obtain ⟨hr, hs⟩ := Prod.mk.inj (z_some h)
    subst hr
    subst hs
    exact v_ireturn o dX11_answer_185
  · replace h := z_in c23 h
    refine v_bipush o (-3 : Int32) dX11_answer_179 (by decide) ?_
    refine v_goto o 185 dX11_answer_181 (by decide) ?_
    obtain ⟨hr, hs⟩ := Prod.mk.inj (z_some h)
    subst hr
    subst hs
    exact v_ireturn o dX11_answer_185
def j_X11_answer_171 (G : z_G) (D : z_D) (a0 : Nat) (s0 : Int32) : Option (Int32 × z_D) :=
  (j_X11_answer_172 G D  a0 s0)
set_option maxRecDepth 100000 in
set_option maxHeartbeats 4000000 in
theorem tj_X11_answer_171 {q : z_Q} {X : z_X} {G : z_G} {D : z_D} {a0 : Nat} {s0 : Int32} {r : Int32} {D1 : z_D} (o : z_O q X cX11_answer 4 "FlashTrustModel" "answer" (some .int)) (hX : x_R X = z_rm 14 0 0) (hK0 : z_K G a0 = 111) (h : j_X11_answer_171 G D a0 s0 = some (r, D1)) : z_V q X 4 (z_F q X (some (.int r)) G D1 0 0) 0 0 G D 171 [(0, .ref (z_w q a0))] [.int s0] := by
  unfold j_X11_answer_171 at h
  refine v_istore_n o [(2, .int s0), (0, .ref (z_w q a0))] dX11_answer_171 rfl (by decide) rfl ?_
  refine v_sub [1, 0] rfl ?_
  exact tj_X11_answer_172 o hX hK0 h
def j_X11_answer_114 (G : z_G) (D : z_D) (a0 : Nat)  : Option (Int32 × z_D) :=
  (f_X11_fail G D a0 (1 : Int32)).bind (fun p22 => ((j_X11_answer_171 G p22.2  a0 p22.1)))
set_option maxRecDepth 100000 in
set_option maxHeartbeats 4000000 in
theorem tj_X11_answer_114 {q : z_Q} {X : z_X} {G : z_G} {D : z_D} {a0 : Nat}  {r : Int32} {D1 : z_D} (o : z_O q X cX11_answer 4 "FlashTrustModel" "answer" (some .int)) (hX : x_R X = z_rm 14 0 0) (hK0 : z_K G a0 = 111) (h : j_X11_answer_114 G D a0  = some (r, D1)) : z_V q X 4 (z_F q X (some (.int r)) G D1 0 0) 0 0 G D 114 [(0, .ref (z_w q a0))] [] := by
  unfold j_X11_answer_114 at h
  refine v_aload_n o dX11_answer_114 rfl 0 rfl ?_
  refine v_iconst o (1 : Int32) dX11_answer_115 (by decide) ?_
  obtain ⟨p22, he21, h⟩ := z_bind h
  refine v_callV o yw_X11_fail ln_6_117 wi_X11_fail ws_X11_fail hX (by decide) 11 rfl hK0 (As := [.int (1 : Int32)]) rfl rfl (Nat.le_of_ble_eq_true rfl) (e_X11_fail hK0 he21) dX11_answer_116 ?_
  refine v_goto o 171 dX11_answer_119 (by decide) ?_
  exact tj_X11_answer_171 o hX hK0 h
def f_X11_answer (G : z_G) (D : z_D) (a0 : Nat) : Option (Int32 × z_D) :=
  (if (z_I D 1103 a0) = (0 : Int32) then ((if (z_I D 1148 a0) = (0 : Int32) then ((some ((-4 : Int32), D))) else ((if (z_I (z_sI D 1112 a0 (0 : Int32)) 1148 a0) = (5 : Int32) then ((f_X11_takePiece G (z_sI D 1112 a0 (0 : Int32)) a0 (z_I D 1112 a0)).bind (fun p37 => ((j_X11_answer_172 G p37.2  a0 p37.1)))) else (((z_loop (fun v => c_X11_answer_59 G v.1 a0 (z_I D 1112 a0) v.2) 4000 ((z_sI (z_sI (z_sI D 1112 a0 (0 : Int32)) 1126 a0 (z_I D 1112 a0)) 1156 a0 (z_I D 1112 a0)), (0 : Int32))).bind (fun e16 => (f_X11_readDoc G e16 a0).bind (fun p19 => ((if p19.1 = (0 : Int32) then (j_X11_answer_114 G p19.2  a0) else ((if (z_I p19.2 1127 a0) = ((z_I p19.2 1148 a0) - (1 : Int32)) then ((if (z_I p19.2 1148 a0) = (1 : Int32) then ((f_X11_takeRoot G p19.2 a0).bind (fun p35 => ((j_X11_answer_171 G p35.2  a0 p35.1)))) else ((if (z_I p19.2 1148 a0) = (2 : Int32) then ((f_X11_takeTime G p19.2 a0).bind (fun p33 => ((j_X11_answer_171 G p33.2  a0 p33.1)))) else ((if (z_I p19.2 1148 a0) = (3 : Int32) then ((f_X11_takeList G p19.2 a0).bind (fun p31 => ((j_X11_answer_171 G p31.2  a0 p31.1)))) else ((f_X11_takeImages G p19.2 a0).bind (fun p29 => ((j_X11_answer_171 G p29.2  a0 p29.1)))))))))) else (j_X11_answer_114 G p19.2  a0))))))))))))) else ((some ((-3 : Int32), D))))
set_option maxRecDepth 100000 in
set_option maxHeartbeats 4000000 in
theorem b_X11_answer {q : z_Q} {X : z_X} {G : z_G} {D : z_D} {a0 : Nat} {r : Int32} {D1 : z_D} (o : z_O q X cX11_answer 4 "FlashTrustModel" "answer" (some .int)) (hX : x_R X = z_rm 14 0 0) (hK0 : z_K G a0 = 111) (h : f_X11_answer G D a0 = some (r, D1)) : z_V q X 4 (z_F q X (some (.int r)) G D1 0 0) 0 0 G D 0 [(0, .ref (z_w q a0))] [] := by
  unfold f_X11_answer at h
  refine v_aload_n o dX11_answer_0 rfl 0 rfl ?_
  refine gt_11_3 o hK0 ln_5_98 dX11_answer_1 ?_
  refine v_if_eq o 10 dX11_answer_4 (by decide) (fun c1 => ?_) (fun c1 => ?_)
  · replace h := z_ip c1 h
    refine v_aload_n o dX11_answer_10 rfl 0 rfl ?_
    refine gt_11_48 o hK0 ln_5_143 dX11_answer_11 ?_
    refine v_if_ne o 20 dX11_answer_14 (by decide) (fun c2 => ?_) (fun c2 => ?_)
    · replace h := z_in c2 h
      refine v_aload_n o dX11_answer_20 rfl 0 rfl ?_
      refine gt_11_12 o hK0 ln_5_107 dX11_answer_21 ?_
      refine v_istore_n o [(1, .int (z_I D 1112 a0)), (0, .ref (z_w q a0))] dX11_answer_24 rfl (by decide) rfl ?_
      refine v_aload_n o dX11_answer_25 rfl 1 rfl ?_
      refine v_iconst o (0 : Int32) dX11_answer_26 (by decide) ?_
      refine pt_11_12 o hK0 ln_5_107 dX11_answer_27 ?_
      refine v_aload_n o dX11_answer_30 rfl 1 rfl ?_
      refine gt_11_48 o hK0 ln_5_143 dX11_answer_31 ?_
      refine v_iconst o (5 : Int32) dX11_answer_34 (by decide) ?_
      refine v_icmp_ne o 47 dX11_answer_35 (by decide) (fun c3 => ?_) (fun c3 => ?_)
      · replace h := z_in c3 h
        refine v_aload_n o dX11_answer_47 rfl 1 rfl ?_
        refine v_iload_n o dX11_answer_48 rfl 0 rfl ?_
        refine pt_11_26 o hK0 ln_5_121 dX11_answer_49 ?_
        refine v_aload_n o dX11_answer_52 rfl 1 rfl ?_
        refine v_iload_n o dX11_answer_53 rfl 0 rfl ?_
        refine pt_11_56 o hK0 ln_5_151 dX11_answer_54 ?_
        refine v_iconst o (0 : Int32) dX11_answer_57 (by decide) ?_
        refine v_istore_n o [(3, .int (0 : Int32)), (1, .int (z_I D 1112 a0)), (0, .ref (z_w q a0))] dX11_answer_58 rfl (by decide) rfl ?_
        refine v_sub [2, 1, 0] rfl ?_
        obtain ⟨e16, he17, h⟩ := z_bind h
        refine z_loopV (P := p_X11_answer_59 q X _ G a0 (z_I D 1112 a0)) (E := x_X11_answer_59 q X _ G a0 (z_I D 1112 a0)) (fun v ρ hb hk => tc_X11_answer_59 (D := v.1) (a0 := a0) (a1 := (z_I D 1112 a0)) (a3 := v.2) o hX hK0 hb hk) 4000 _ e16 he17 ?_
        show z_V q X 4 _ _ _ G e16 94 [(0, .ref (z_w q a0))] []
        refine v_aload_n o dX11_answer_94 rfl 0 rfl ?_
        obtain ⟨p19, he18, h⟩ := z_bind h
        refine v_callV o yw_X11_readDoc ln_6_141 wi_X11_readDoc ws_X11_readDoc hX (by decide) 11 rfl hK0 (As := []) rfl rfl (Nat.le_of_ble_eq_true rfl) (e_X11_readDoc hK0 he18) dX11_answer_95 ?_
        refine v_if_eq o 114 dX11_answer_98 (by decide) (fun c20 => ?_) (fun c20 => ?_)
        · replace h := z_ip c20 h
          exact tj_X11_answer_114 o hX hK0 h
        · replace h := z_in c20 h
          refine v_aload_n o dX11_answer_101 rfl 0 rfl ?_
          refine gt_11_27 o hK0 ln_5_122 dX11_answer_102 ?_
          refine v_aload_n o dX11_answer_105 rfl 0 rfl ?_
          refine gt_11_48 o hK0 ln_5_143 dX11_answer_106 ?_
          refine v_iconst o (1 : Int32) dX11_answer_109 (by decide) ?_
          refine v_isub o dX11_answer_110 ?_
          refine v_icmp_eq o 122 dX11_answer_111 (by decide) (fun c24 => ?_) (fun c24 => ?_)
          · replace h := z_ip c24 h
            refine v_aload_n o dX11_answer_122 rfl 0 rfl ?_
            refine gt_11_48 o hK0 ln_5_143 dX11_answer_123 ?_
            refine v_iconst o (1 : Int32) dX11_answer_126 (by decide) ?_
            refine v_icmp_ne o 137 dX11_answer_127 (by decide) (fun c25 => ?_) (fun c25 => ?_)
            · replace h := z_in c25 h
              refine v_aload_n o dX11_answer_137 rfl 0 rfl ?_
              refine gt_11_48 o hK0 ln_5_143 dX11_answer_138 ?_
              refine v_iconst o (2 : Int32) dX11_answer_141 (by decide) ?_
              refine v_icmp_ne o 152 dX11_answer_142 (by decide) (fun c26 => ?_) (fun c26 => ?_)
              · replace h := z_in c26 h
                refine v_aload_n o dX11_answer_152 rfl 0 rfl ?_
                refine gt_11_48 o hK0 ln_5_143 dX11_answer_153 ?_
                refine v_iconst o (3 : Int32) dX11_answer_156 (by decide) ?_
                refine v_icmp_ne o 167 dX11_answer_157 (by decide) (fun c27 => ?_) (fun c27 => ?_)
                · replace h := z_in c27 h
                  refine v_aload_n o dX11_answer_167 rfl 0 rfl ?_
                  obtain ⟨p29, he28, h⟩ := z_bind h
                  refine v_callV o yw_X11_takeImages ln_7_3 wi_X11_takeImages ws_X11_takeImages hX (by decide) 11 rfl hK0 (As := []) rfl rfl (Nat.le_of_ble_eq_true rfl) (e_X11_takeImages hK0 he28) dX11_answer_168 ?_
                  exact tj_X11_answer_171 o hX hK0 h
                · replace h := z_ip c27 h
                  refine v_aload_n o dX11_answer_160 rfl 0 rfl ?_
                  obtain ⟨p31, he30, h⟩ := z_bind h
                  refine v_callV o yw_X11_takeList ln_6_235 wi_X11_takeList ws_X11_takeList hX (by decide) 11 rfl hK0 (As := []) rfl rfl (Nat.le_of_ble_eq_true rfl) (e_X11_takeList hK0 he30) dX11_answer_161 ?_
                  refine v_goto o 171 dX11_answer_164 (by decide) ?_
                  exact tj_X11_answer_171 o hX hK0 h
              · replace h := z_ip c26 h
                refine v_aload_n o dX11_answer_145 rfl 0 rfl ?_
                obtain ⟨p33, he32, h⟩ := z_bind h
                refine v_callV o yw_X11_takeTime ln_6_211 wi_X11_takeTime ws_X11_takeTime hX (by decide) 11 rfl hK0 (As := []) rfl rfl (Nat.le_of_ble_eq_true rfl) (e_X11_takeTime hK0 he32) dX11_answer_146 ?_
                refine v_goto o 171 dX11_answer_149 (by decide) ?_
                exact tj_X11_answer_171 o hX hK0 h
            · replace h := z_ip c25 h
              refine v_aload_n o dX11_answer_130 rfl 0 rfl ?_
              obtain ⟨p35, he34, h⟩ := z_bind h
              refine v_callV o yw_X11_takeRoot ln_6_166 wi_X11_takeRoot ws_X11_takeRoot hX (by decide) 11 rfl hK0 (As := []) rfl rfl (Nat.le_of_ble_eq_true rfl) (e_X11_takeRoot hK0 he34) dX11_answer_131 ?_
              refine v_goto o 171 dX11_answer_134 (by decide) ?_
              exact tj_X11_answer_171 o hX hK0 h
          · replace h := z_in c24 h
            exact tj_X11_answer_114 o hX hK0 h
      · replace h := z_ip c3 h
        refine v_aload_n o dX11_answer_38 rfl 1 rfl ?_
        refine v_iload_n o dX11_answer_39 rfl 0 rfl ?_
        obtain ⟨p37, he36, h⟩ := z_bind h
        refine v_callV o yw_X11_takePiece ln_6_113 wi_X11_takePiece ws_X11_takePiece hX (by decide) 11 rfl hK0 (As := [.int (z_I D 1112 a0)]) rfl rfl (Nat.le_of_ble_eq_true rfl) (e_X11_takePiece hK0 he36) dX11_answer_40 ?_
        refine v_istore_n o [(2, .int p37.1), (1, .int (z_I D 1112 a0)), (0, .ref (z_w q a0))] dX11_answer_43 rfl (by decide) rfl ?_
        refine v_goto o 172 dX11_answer_44 (by decide) ?_
        refine v_sub [2, 0] rfl ?_
        exact tj_X11_answer_172 o hX hK0 h
    · replace h := z_ip c2 h
      refine v_bipush o (-4 : Int32) dX11_answer_17 (by decide) ?_
      obtain ⟨hr, hs⟩ := Prod.mk.inj (z_some h)
      subst hr
      subst hs
      exact v_ireturn o dX11_answer_19
  · replace h := z_in c1 h
    refine v_bipush o (-3 : Int32) dX11_answer_7 (by decide) ?_
    obtain ⟨hr, hs⟩ := Prod.mk.inj (z_some h)
    subst hr
    subst hs
    exact v_ireturn o dX11_answer_9
theorem e_X11_answer {q : z_Q} {l : Launch} {G : z_G} {D : z_D} {a0 : Nat} {r : Int32} {D1 : z_D} (hK0 : z_K G a0 = 111) (h : f_X11_answer G D a0 = some (r, D1)) : z_E q l yX11_answer cX11_answer 4 (some .int) 14 0 0 [.ref (z_w q a0)] G D (some (.int r)) G D1 :=
  z_E.of (by decide) (Nat.le_of_ble_eq_true rfl) (fun X hX _ o => b_X11_answer o hX hK0 h)
def f_X11_refuse (G : z_G) (D : z_D) (a0 : Nat) : Option (Int32 × z_D) :=
  (if (z_I D 1103 a0) = (0 : Int32) then ((if (z_I D 1148 a0) = (0 : Int32) then ((some ((-4 : Int32), D))) else ((if (z_I D 1148 a0) = (1 : Int32) then ((f_X11_takeTrusted G D a0 (0 : Int32)).bind (fun p5 => ((if (0 : Int32) < (lg_cmp (z_J p5.2 1132 a0) (((z_I p5.2 1149 a0)).toInt64)) then ((some ((2 : Int32), (z_sI p5.2 1148 a0 (2 : Int32))))) else ((f_X11_fail G p5.2 a0 (4 : Int32)).bind (fun p8 => ((some (p8.1, p8.2))))))))) else ((f_X11_fail G D a0 (6 : Int32)).bind (fun p10 => ((some (p10.1, p10.2))))))))) else ((some ((-3 : Int32), D))))
set_option maxRecDepth 100000 in
set_option maxHeartbeats 4000000 in
theorem b_X11_refuse {q : z_Q} {X : z_X} {G : z_G} {D : z_D} {a0 : Nat} {r : Int32} {D1 : z_D} (o : z_O q X cX11_refuse 2 "FlashTrustModel" "refuse" (some .int)) (hX : x_R X = z_rm 7 0 0) (hK0 : z_K G a0 = 111) (h : f_X11_refuse G D a0 = some (r, D1)) : z_V q X 2 (z_F q X (some (.int r)) G D1 0 0) 0 0 G D 0 [(0, .ref (z_w q a0))] [] := by
  unfold f_X11_refuse at h
  refine v_aload_n o dX11_refuse_0 rfl 0 rfl ?_
  refine gt_11_3 o hK0 ln_5_98 dX11_refuse_1 ?_
  refine v_if_eq o 10 dX11_refuse_4 (by decide) (fun c1 => ?_) (fun c1 => ?_)
  · replace h := z_ip c1 h
    refine v_aload_n o dX11_refuse_10 rfl 0 rfl ?_
    refine gt_11_48 o hK0 ln_5_143 dX11_refuse_11 ?_
    refine v_if_ne o 20 dX11_refuse_14 (by decide) (fun c2 => ?_) (fun c2 => ?_)
    · replace h := z_in c2 h
      refine v_aload_n o dX11_refuse_20 rfl 0 rfl ?_
      refine gt_11_48 o hK0 ln_5_143 dX11_refuse_21 ?_
      refine v_iconst o (1 : Int32) dX11_refuse_24 (by decide) ?_
      refine v_icmp_eq o 35 dX11_refuse_25 (by decide) (fun c3 => ?_) (fun c3 => ?_)
      · replace h := z_ip c3 h
        refine v_aload_n o dX11_refuse_35 rfl 0 rfl ?_
        refine v_iconst o (0 : Int32) dX11_refuse_36 (by decide) ?_
        obtain ⟨p5, he4, h⟩ := z_bind h
        refine v_callV o yw_X11_takeTrusted ln_6_170 wi_X11_takeTrusted ws_X11_takeTrusted hX (by decide) 11 rfl hK0 (As := [.int (0 : Int32)]) rfl rfl (Nat.le_of_ble_eq_true rfl) (e_X11_takeTrusted hK0 he4) dX11_refuse_37 ?_
        refine v_istore_n o [(1, .int p5.1), (0, .ref (z_w q a0))] dX11_refuse_40 rfl (by decide) rfl ?_
        refine v_aload_n o dX11_refuse_41 rfl 1 rfl ?_
        refine gt_11_32 o hK0 ln_5_127 dX11_refuse_42 ?_
        refine v_aload_n o dX11_refuse_45 rfl 1 rfl ?_
        refine gt_11_49 o hK0 ln_5_144 dX11_refuse_46 ?_
        refine v_i2l o dX11_refuse_49 ?_
        refine v_lcmp o dX11_refuse_50 ?_
        refine v_if_gt o 60 dX11_refuse_51 (by decide) (fun c6 => ?_) (fun c6 => ?_)
        · replace h := z_ip c6 h
          refine v_aload_n o dX11_refuse_60 rfl 1 rfl ?_
          refine v_iconst o (2 : Int32) dX11_refuse_61 (by decide) ?_
          refine pt_11_48 o hK0 ln_5_143 dX11_refuse_62 ?_
          refine v_iconst o (2 : Int32) dX11_refuse_65 (by decide) ?_
          obtain ⟨hr, hs⟩ := Prod.mk.inj (z_some h)
          subst hr
          subst hs
          exact v_ireturn o dX11_refuse_66
        · replace h := z_in c6 h
          refine v_aload_n o dX11_refuse_54 rfl 1 rfl ?_
          refine v_iconst o (4 : Int32) dX11_refuse_55 (by decide) ?_
          obtain ⟨p8, he7, h⟩ := z_bind h
          refine v_callV o yw_X11_fail ln_6_117 wi_X11_fail ws_X11_fail hX (by decide) 11 rfl hK0 (As := [.int (4 : Int32)]) rfl rfl (Nat.le_of_ble_eq_true rfl) (e_X11_fail hK0 he7) dX11_refuse_56 ?_
          obtain ⟨hr, hs⟩ := Prod.mk.inj (z_some h)
          subst hr
          subst hs
          exact v_ireturn o dX11_refuse_59
      · replace h := z_in c3 h
        refine v_aload_n o dX11_refuse_28 rfl 0 rfl ?_
        refine v_bipush o (6 : Int32) dX11_refuse_29 (by decide) ?_
        obtain ⟨p10, he9, h⟩ := z_bind h
        refine v_callV o yw_X11_fail ln_6_117 wi_X11_fail ws_X11_fail hX (by decide) 11 rfl hK0 (As := [.int (6 : Int32)]) rfl rfl (Nat.le_of_ble_eq_true rfl) (e_X11_fail hK0 he9) dX11_refuse_31 ?_
        obtain ⟨hr, hs⟩ := Prod.mk.inj (z_some h)
        subst hr
        subst hs
        exact v_ireturn o dX11_refuse_34
    · replace h := z_ip c2 h
      refine v_bipush o (-4 : Int32) dX11_refuse_17 (by decide) ?_
      obtain ⟨hr, hs⟩ := Prod.mk.inj (z_some h)
      subst hr
      subst hs
      exact v_ireturn o dX11_refuse_19
  · replace h := z_in c1 h
    refine v_bipush o (-3 : Int32) dX11_refuse_7 (by decide) ?_
    obtain ⟨hr, hs⟩ := Prod.mk.inj (z_some h)
    subst hr
    subst hs
    exact v_ireturn o dX11_refuse_9
theorem e_X11_refuse {q : z_Q} {l : Launch} {G : z_G} {D : z_D} {a0 : Nat} {r : Int32} {D1 : z_D} (hK0 : z_K G a0 = 111) (h : f_X11_refuse G D a0 = some (r, D1)) : z_E q l yX11_refuse cX11_refuse 2 (some .int) 7 0 0 [.ref (z_w q a0)] G D (some (.int r)) G D1 :=
  z_E.of (by decide) (Nat.le_of_ble_eq_true rfl) (fun X hX _ o => b_X11_refuse o hX hK0 h)
def j_X11_awaits_79 (G : z_G) (D : z_D) (a0 : Nat)  : Option (Int32 × z_D) :=
  (f_X11_takeTrusted G D a0 ((z_I D 1148 a0) - (2 : Int32))).bind (fun p8 => ((some ((z_I p8.2 1135 a0), p8.2))))
set_option maxRecDepth 100000 in
set_option maxHeartbeats 4000000 in
theorem tj_X11_awaits_79 {q : z_Q} {X : z_X} {G : z_G} {D : z_D} {a0 : Nat}  {r : Int32} {D1 : z_D} (o : z_O q X cX11_awaits 3 "FlashTrustModel" "awaits" (some .int)) (hX : x_R X = z_rm 7 0 0) (hK0 : z_K G a0 = 111) (h : j_X11_awaits_79 G D a0  = some (r, D1)) : z_V q X 3 (z_F q X (some (.int r)) G D1 0 0) 0 0 G D 79 [(0, .ref (z_w q a0))] [] := by
  unfold j_X11_awaits_79 at h
  refine v_aload_n o dX11_awaits_79 rfl 0 rfl ?_
  refine v_aload_n o dX11_awaits_80 rfl 0 rfl ?_
  refine gt_11_48 o hK0 ln_5_143 dX11_awaits_81 ?_
  refine v_iconst o (2 : Int32) dX11_awaits_84 (by decide) ?_
  refine v_isub o dX11_awaits_85 ?_
  obtain ⟨p8, he7, h⟩ := z_bind h
  refine v_callV o yw_X11_takeTrusted ln_6_170 wi_X11_takeTrusted ws_X11_takeTrusted hX (by decide) 11 rfl hK0 (As := [.int ((z_I D 1148 a0) - (2 : Int32))]) rfl rfl (Nat.le_of_ble_eq_true rfl) (e_X11_takeTrusted hK0 he7) dX11_awaits_86 ?_
  refine v_istore_n o [(2, .int p8.1), (0, .ref (z_w q a0))] dX11_awaits_89 rfl (by decide) rfl ?_
  refine v_aload_n o dX11_awaits_90 rfl 1 rfl ?_
  refine gt_11_35 o hK0 ln_5_130 dX11_awaits_91 ?_
  obtain ⟨hr, hs⟩ := Prod.mk.inj (z_some h)
  subst hr
  subst hs
  exact v_ireturn o dX11_awaits_94
def f_X11_awaits (G : z_G) (D : z_D) (a0 : Nat) (a1 : Int32) : Option (Int32 × z_D) :=
  (if a1 < (0 : Int32) then ((some ((-1 : Int32), D))) else ((if a1 ≤ (2 : Int32) then ((if a1 = (0 : Int32) then ((some ((z_I D 1148 a0), D))) else ((if a1 = (2 : Int32) then ((if (z_I D 1148 a0) = (5 : Int32) then (((some ((z_I D 1151 a0), D)))) else ((some ((0 : Int32), D))))) else ((if (z_I D 1148 a0) = (1 : Int32) then ((f_X11_takeTrusted G D a0 (0 : Int32)).bind (fun p12 => ((some (((z_I p12.2 1131 a0) + (1 : Int32)), p12.2))))) else ((if (z_I D 1148 a0) = (3 : Int32) then (j_X11_awaits_79 G D  a0) else ((if (z_I D 1148 a0) = (4 : Int32) then (j_X11_awaits_79 G D  a0) else ((if (z_I D 1148 a0) = (5 : Int32) then (((some ((z_I D 1152 a0), D)))) else ((some ((0 : Int32), D))))))))))))))) else ((some ((-1 : Int32), D))))))
set_option maxRecDepth 100000 in
set_option maxHeartbeats 4000000 in
theorem b_X11_awaits {q : z_Q} {X : z_X} {G : z_G} {D : z_D} {a0 : Nat} {a1 : Int32} {r : Int32} {D1 : z_D} (o : z_O q X cX11_awaits 3 "FlashTrustModel" "awaits" (some .int)) (hX : x_R X = z_rm 7 0 0) (hK0 : z_K G a0 = 111) (h : f_X11_awaits G D a0 a1 = some (r, D1)) : z_V q X 3 (z_F q X (some (.int r)) G D1 0 0) 0 0 G D 0 [(0, .ref (z_w q a0)), (1, .int a1)] [] := by
  unfold f_X11_awaits at h
  refine v_iload_n o dX11_awaits_0 rfl 1 rfl ?_
  refine v_if_lt o 9 dX11_awaits_1 (by decide) (fun c1 => ?_) (fun c1 => ?_)
  · replace h := z_ip c1 h
    refine v_iconst o (-1 : Int32) dX11_awaits_9 (by decide) ?_
    obtain ⟨hr, hs⟩ := Prod.mk.inj (z_some h)
    subst hr
    subst hs
    exact v_ireturn o dX11_awaits_10
  · replace h := z_in c1 h
    refine v_iload_n o dX11_awaits_4 rfl 1 rfl ?_
    refine v_iconst o (2 : Int32) dX11_awaits_5 (by decide) ?_
    refine v_icmp_le o 11 dX11_awaits_6 (by decide) (fun c2 => ?_) (fun c2 => ?_)
    · replace h := z_ip c2 h
      refine v_iload_n o dX11_awaits_11 rfl 1 rfl ?_
      refine v_if_ne o 20 dX11_awaits_12 (by decide) (fun c3 => ?_) (fun c3 => ?_)
      · replace h := z_in c3 h
        refine v_iload_n o dX11_awaits_20 rfl 1 rfl ?_
        refine v_iconst o (2 : Int32) dX11_awaits_21 (by decide) ?_
        refine v_icmp_ne o 42 dX11_awaits_22 (by decide) (fun c4 => ?_) (fun c4 => ?_)
        · replace h := z_in c4 h
          refine v_aload_n o dX11_awaits_42 rfl 0 rfl ?_
          refine gt_11_48 o hK0 ln_5_143 dX11_awaits_43 ?_
          refine v_iconst o (1 : Int32) dX11_awaits_46 (by decide) ?_
          refine v_icmp_ne o 63 dX11_awaits_47 (by decide) (fun c5 => ?_) (fun c5 => ?_)
          · replace h := z_in c5 h
            refine v_aload_n o dX11_awaits_63 rfl 0 rfl ?_
            refine gt_11_48 o hK0 ln_5_143 dX11_awaits_64 ?_
            refine v_iconst o (3 : Int32) dX11_awaits_67 (by decide) ?_
            refine v_icmp_eq o 79 dX11_awaits_68 (by decide) (fun c6 => ?_) (fun c6 => ?_)
            · replace h := z_ip c6 h
              refine v_sub [0] rfl ?_
              exact tj_X11_awaits_79 o hX hK0 h
            · replace h := z_in c6 h
              refine v_aload_n o dX11_awaits_71 rfl 0 rfl ?_
              refine gt_11_48 o hK0 ln_5_143 dX11_awaits_72 ?_
              refine v_iconst o (4 : Int32) dX11_awaits_75 (by decide) ?_
              refine v_icmp_ne o 95 dX11_awaits_76 (by decide) (fun c9 => ?_) (fun c9 => ?_)
              · replace h := z_in c9 h
                refine v_aload_n o dX11_awaits_95 rfl 0 rfl ?_
                refine gt_11_48 o hK0 ln_5_143 dX11_awaits_96 ?_
                refine v_iconst o (5 : Int32) dX11_awaits_99 (by decide) ?_
                refine v_icmp_ne o 110 dX11_awaits_100 (by decide) (fun c10 => ?_) (fun c10 => ?_)
                · replace h := z_in c10 h
                  refine v_iconst o (0 : Int32) dX11_awaits_110 (by decide) ?_
                  obtain ⟨hr, hs⟩ := Prod.mk.inj (z_some h)
                  subst hr
                  subst hs
                  exact v_ireturn o dX11_awaits_111
                · replace h := z_ip c10 h
                  refine v_aload_n o dX11_awaits_103 rfl 0 rfl ?_
                  refine gt_11_52 o hK0 ln_5_147 dX11_awaits_104 ?_
                  refine v_goto o 111 dX11_awaits_107 (by decide) ?_
                  obtain ⟨hr, hs⟩ := Prod.mk.inj (z_some h)
                  subst hr
                  subst hs
                  exact v_ireturn o dX11_awaits_111
              · replace h := z_ip c9 h
                refine v_sub [0] rfl ?_
                exact tj_X11_awaits_79 o hX hK0 h
          · replace h := z_ip c5 h
            refine v_aload_n o dX11_awaits_50 rfl 0 rfl ?_
            refine v_iconst o (0 : Int32) dX11_awaits_51 (by decide) ?_
            obtain ⟨p12, he11, h⟩ := z_bind h
            refine v_callV o yw_X11_takeTrusted ln_6_170 wi_X11_takeTrusted ws_X11_takeTrusted hX (by decide) 11 rfl hK0 (As := [.int (0 : Int32)]) rfl rfl (Nat.le_of_ble_eq_true rfl) (e_X11_takeTrusted hK0 he11) dX11_awaits_52 ?_
            refine v_istore_n o [(2, .int p12.1), (0, .ref (z_w q a0)), (1, .int a1)] dX11_awaits_55 rfl (by decide) rfl ?_
            refine v_aload_n o dX11_awaits_56 rfl 1 rfl ?_
            refine gt_11_31 o hK0 ln_5_126 dX11_awaits_57 ?_
            refine v_iconst o (1 : Int32) dX11_awaits_60 (by decide) ?_
            refine v_iadd o dX11_awaits_61 ?_
            obtain ⟨hr, hs⟩ := Prod.mk.inj (z_some h)
            subst hr
            subst hs
            exact v_ireturn o dX11_awaits_62
        · replace h := z_ip c4 h
          refine v_aload_n o dX11_awaits_25 rfl 0 rfl ?_
          refine gt_11_48 o hK0 ln_5_143 dX11_awaits_26 ?_
          refine v_iconst o (5 : Int32) dX11_awaits_29 (by decide) ?_
          refine v_icmp_ne o 40 dX11_awaits_30 (by decide) (fun c13 => ?_) (fun c13 => ?_)
          · replace h := z_in c13 h
            refine v_iconst o (0 : Int32) dX11_awaits_40 (by decide) ?_
            obtain ⟨hr, hs⟩ := Prod.mk.inj (z_some h)
            subst hr
            subst hs
            exact v_ireturn o dX11_awaits_41
          · replace h := z_ip c13 h
            refine v_aload_n o dX11_awaits_33 rfl 0 rfl ?_
            refine gt_11_51 o hK0 ln_5_146 dX11_awaits_34 ?_
            refine v_goto o 41 dX11_awaits_37 (by decide) ?_
            obtain ⟨hr, hs⟩ := Prod.mk.inj (z_some h)
            subst hr
            subst hs
            exact v_ireturn o dX11_awaits_41
      · replace h := z_ip c3 h
        refine v_aload_n o dX11_awaits_15 rfl 0 rfl ?_
        refine gt_11_48 o hK0 ln_5_143 dX11_awaits_16 ?_
        obtain ⟨hr, hs⟩ := Prod.mk.inj (z_some h)
        subst hr
        subst hs
        exact v_ireturn o dX11_awaits_19
    · replace h := z_in c2 h
      refine v_iconst o (-1 : Int32) dX11_awaits_9 (by decide) ?_
      obtain ⟨hr, hs⟩ := Prod.mk.inj (z_some h)
      subst hr
      subst hs
      exact v_ireturn o dX11_awaits_10
theorem e_X11_awaits {q : z_Q} {l : Launch} {G : z_G} {D : z_D} {a0 : Nat} {a1 : Int32} {r : Int32} {D1 : z_D} (hK0 : z_K G a0 = 111) (h : f_X11_awaits G D a0 a1 = some (r, D1)) : z_E q l yX11_awaits cX11_awaits 3 (some .int) 7 0 0 [.ref (z_w q a0), .int a1] G D (some (.int r)) G D1 :=
  z_E.of (by decide) (Nat.le_of_ble_eq_true rfl) (fun X hX _ o => b_X11_awaits o hX hK0 h)
def j_X11_stop_22 (G : z_G) (D : z_D) (a0 : Nat) (s0 : Int32) : Option (Int32 × z_D) :=
  (some (s0, (z_sI D 1148 a0 (0 : Int32))))
set_option maxRecDepth 100000 in
set_option maxHeartbeats 4000000 in
theorem tj_X11_stop_22 {q : z_Q} {X : z_X} {G : z_G} {D : z_D} {a0 : Nat} {s0 : Int32} {r : Int32} {D1 : z_D} (o : z_O q X cX11_stop 2 "FlashTrustModel" "stop" (some .int)) (hX : x_R X = z_rm 0 0 0) (hK0 : z_K G a0 = 111) (h : j_X11_stop_22 G D a0 s0 = some (r, D1)) : z_V q X 2 (z_F q X (some (.int r)) G D1 0 0) 0 0 G D 22 [(0, .ref (z_w q a0))] [.int s0] := by
  unfold j_X11_stop_22 at h
  refine v_istore_n o [(1, .int s0), (0, .ref (z_w q a0))] dX11_stop_22 rfl (by decide) rfl ?_
  refine v_aload_n o dX11_stop_23 rfl 1 rfl ?_
  refine v_iconst o (0 : Int32) dX11_stop_24 (by decide) ?_
  refine pt_11_48 o hK0 ln_5_143 dX11_stop_25 ?_
  refine v_iload_n o dX11_stop_28 rfl 0 rfl ?_
  obtain ⟨hr, hs⟩ := Prod.mk.inj (z_some h)
  subst hr
  subst hs
  exact v_ireturn o dX11_stop_29
def f_X11_stop (G : z_G) (D : z_D) (a0 : Nat) : Option (Int32 × z_D) :=
  (if (z_I D 1103 a0) = (0 : Int32) then ((if (z_I D 1148 a0) = (0 : Int32) then ((j_X11_stop_22 G D  a0 (0 : Int32))) else ((j_X11_stop_22 G D  a0 (1 : Int32))))) else ((some ((-3 : Int32), D))))
set_option maxRecDepth 100000 in
set_option maxHeartbeats 4000000 in
theorem b_X11_stop {q : z_Q} {X : z_X} {G : z_G} {D : z_D} {a0 : Nat} {r : Int32} {D1 : z_D} (o : z_O q X cX11_stop 2 "FlashTrustModel" "stop" (some .int)) (hX : x_R X = z_rm 0 0 0) (hK0 : z_K G a0 = 111) (h : f_X11_stop G D a0 = some (r, D1)) : z_V q X 2 (z_F q X (some (.int r)) G D1 0 0) 0 0 G D 0 [(0, .ref (z_w q a0))] [] := by
  unfold f_X11_stop at h
  refine v_aload_n o dX11_stop_0 rfl 0 rfl ?_
  refine gt_11_3 o hK0 ln_5_98 dX11_stop_1 ?_
  refine v_if_eq o 10 dX11_stop_4 (by decide) (fun c1 => ?_) (fun c1 => ?_)
  · replace h := z_ip c1 h
    refine v_aload_n o dX11_stop_10 rfl 0 rfl ?_
    refine gt_11_48 o hK0 ln_5_143 dX11_stop_11 ?_
    refine v_if_ne o 21 dX11_stop_14 (by decide) (fun c2 => ?_) (fun c2 => ?_)
    · replace h := z_in c2 h
      refine v_iconst o (1 : Int32) dX11_stop_21 (by decide) ?_
      exact tj_X11_stop_22 o hX hK0 h
    · replace h := z_ip c2 h
      refine v_iconst o (0 : Int32) dX11_stop_17 (by decide) ?_
      refine v_goto o 22 dX11_stop_18 (by decide) ?_
      exact tj_X11_stop_22 o hX hK0 h
  · replace h := z_in c1 h
    refine v_bipush o (-3 : Int32) dX11_stop_7 (by decide) ?_
    obtain ⟨hr, hs⟩ := Prod.mk.inj (z_some h)
    subst hr
    subst hs
    exact v_ireturn o dX11_stop_9
theorem e_X11_stop {q : z_Q} {l : Launch} {G : z_G} {D : z_D} {a0 : Nat} {r : Int32} {D1 : z_D} (hK0 : z_K G a0 = 111) (h : f_X11_stop G D a0 = some (r, D1)) : z_E q l yX11_stop cX11_stop 2 (some .int) 0 0 0 [.ref (z_w q a0)] G D (some (.int r)) G D1 :=
  z_E.of (by decide) (Nat.le_of_ble_eq_true rfl) (fun X hX _ o => b_X11_stop o hX hK0 h)
def f_X11_power (G : z_G) (D : z_D) (a0 : Nat) (a1 : Int32) (a2 : Int32) : Option (Int32 × z_D) :=
  (if a1 < (-1 : Int32) then ((some ((-1 : Int32), D))) else ((if a1 ≤ (500 : Int32) then ((some ((1 : Int32), (z_sI (z_sI D 1106 a0 a1) 1107 a0 a2)))) else ((some ((-1 : Int32), D))))))
set_option maxRecDepth 100000 in
set_option maxHeartbeats 4000000 in
theorem b_X11_power {q : z_Q} {X : z_X} {G : z_G} {D : z_D} {a0 : Nat} {a1 : Int32} {a2 : Int32} {r : Int32} {D1 : z_D} (o : z_O q X cX11_power 3 "FlashTrustModel" "power" (some .int)) (hX : x_R X = z_rm 0 0 0) (hK0 : z_K G a0 = 111) (h : f_X11_power G D a0 a1 a2 = some (r, D1)) : z_V q X 3 (z_F q X (some (.int r)) G D1 0 0) 0 0 G D 0 [(0, .ref (z_w q a0)), (1, .int a1), (2, .int a2)] [] := by
  unfold f_X11_power at h
  refine v_iload_n o dX11_power_0 rfl 1 rfl ?_
  refine v_iconst o (-1 : Int32) dX11_power_1 (by decide) ?_
  refine v_icmp_lt o 12 dX11_power_2 (by decide) (fun c1 => ?_) (fun c1 => ?_)
  · replace h := z_ip c1 h
    refine v_iconst o (-1 : Int32) dX11_power_12 (by decide) ?_
    obtain ⟨hr, hs⟩ := Prod.mk.inj (z_some h)
    subst hr
    subst hs
    exact v_ireturn o dX11_power_13
  · replace h := z_in c1 h
    refine v_iload_n o dX11_power_5 rfl 1 rfl ?_
    refine v_sipush o (500 : Int32) dX11_power_6 (by decide) ?_
    refine v_icmp_le o 14 dX11_power_9 (by decide) (fun c2 => ?_) (fun c2 => ?_)
    · replace h := z_ip c2 h
      refine v_aload_n o dX11_power_14 rfl 0 rfl ?_
      refine v_iload_n o dX11_power_15 rfl 1 rfl ?_
      refine pt_11_6 o hK0 ln_5_101 dX11_power_16 ?_
      refine v_aload_n o dX11_power_19 rfl 0 rfl ?_
      refine v_iload_n o dX11_power_20 rfl 2 rfl ?_
      refine pt_11_7 o hK0 ln_5_102 dX11_power_21 ?_
      refine v_iconst o (1 : Int32) dX11_power_24 (by decide) ?_
      obtain ⟨hr, hs⟩ := Prod.mk.inj (z_some h)
      subst hr
      subst hs
      exact v_ireturn o dX11_power_25
    · replace h := z_in c2 h
      refine v_iconst o (-1 : Int32) dX11_power_12 (by decide) ?_
      obtain ⟨hr, hs⟩ := Prod.mk.inj (z_some h)
      subst hr
      subst hs
      exact v_ireturn o dX11_power_13
theorem e_X11_power {q : z_Q} {l : Launch} {G : z_G} {D : z_D} {a0 : Nat} {a1 : Int32} {a2 : Int32} {r : Int32} {D1 : z_D} (hK0 : z_K G a0 = 111) (h : f_X11_power G D a0 a1 a2 = some (r, D1)) : z_E q l yX11_power cX11_power 3 (some .int) 0 0 0 [.ref (z_w q a0), .int a1, .int a2] G D (some (.int r)) G D1 :=
  z_E.of (by decide) (Nat.le_of_ble_eq_true rfl) (fun X hX _ o => b_X11_power o hX hK0 h)
def j_X11_runConfirmed_29 (G : z_G) (D : z_D) (a0 : Nat) (s0 : Int32) : Option (z_D) :=
  (if s0 = (0 : Int32) then ((some (z_sI D 1108 a0 (0 : Int32)))) else (((some (z_sI D 1108 a0 (z_I D 1117 a0))))))
set_option maxRecDepth 100000 in
set_option maxHeartbeats 4000000 in
theorem tj_X11_runConfirmed_29 {q : z_Q} {X : z_X} {G : z_G} {D : z_D} {a0 : Nat} {s0 : Int32}  {D1 : z_D} (o : z_O q X cX11_runConfirmed 2 "FlashTrustModel" "runConfirmed" none) (hX : x_R X = z_rm 4 0 0) (hK0 : z_K G a0 = 111) (h : j_X11_runConfirmed_29 G D a0 s0 = some D1) : z_V q X 2 (z_F q X none G D1 0 0) 0 0 G D 29 [(0, .ref (z_w q a0))] [.int s0] := by
  unfold j_X11_runConfirmed_29 at h
  refine v_istore_n o [(1, .int s0), (0, .ref (z_w q a0))] dX11_runConfirmed_29 rfl (by decide) rfl ?_
  refine v_aload_n o dX11_runConfirmed_30 rfl 1 rfl ?_
  refine v_iload_n o dX11_runConfirmed_31 rfl 0 rfl ?_
  refine v_if_eq o 42 dX11_runConfirmed_32 (by decide) (fun c6 => ?_) (fun c6 => ?_)
  · replace h := z_ip c6 h
    refine v_iconst o (0 : Int32) dX11_runConfirmed_42 (by decide) ?_
    refine pt_11_8 o hK0 ln_5_103 dX11_runConfirmed_43 ?_
    have hr := z_some h
    subst hr
    exact v_return o dX11_runConfirmed_46
  · replace h := z_in c6 h
    refine v_aload_n o dX11_runConfirmed_35 rfl 1 rfl ?_
    refine gt_11_17 o hK0 ln_5_112 dX11_runConfirmed_36 ?_
    refine v_goto o 43 dX11_runConfirmed_39 (by decide) ?_
    refine pt_11_8 o hK0 ln_5_103 dX11_runConfirmed_43 ?_
    have hr := z_some h
    subst hr
    exact v_return o dX11_runConfirmed_46
def f_X11_runConfirmed (G : z_G) (D : z_D) (a0 : Nat) : Option (z_D) :=
  (f_X11_layState G D a0).bind (fun D2 => ((f_X11_slotDigest G D2 a0 (z_I D2 1116 a0) (z_I D2 1118 a0)).bind (fun p4 => ((if (lg_cmp p4.1 (z_J p4.2 1119 a0)) = (0 : Int32) then ((j_X11_runConfirmed_29 G p4.2  a0 (1 : Int32))) else ((j_X11_runConfirmed_29 G p4.2  a0 (0 : Int32))))))))
set_option maxRecDepth 100000 in
set_option maxHeartbeats 4000000 in
theorem b_X11_runConfirmed {q : z_Q} {X : z_X} {G : z_G} {D : z_D} {a0 : Nat}  {D1 : z_D} (o : z_O q X cX11_runConfirmed 2 "FlashTrustModel" "runConfirmed" none) (hX : x_R X = z_rm 4 0 0) (hK0 : z_K G a0 = 111) (h : f_X11_runConfirmed G D a0 = some D1) : z_V q X 2 (z_F q X none G D1 0 0) 0 0 G D 0 [(0, .ref (z_w q a0))] [] := by
  unfold f_X11_runConfirmed at h
  refine v_aload_n o dX11_runConfirmed_0 rfl 0 rfl ?_
  obtain ⟨D2, he1, h⟩ := z_bind h
  refine v_callV o yw_X11_layState ln_5_63 wi_X11_layState ws_X11_layState hX (by decide) 11 rfl hK0 (As := []) rfl rfl (Nat.le_of_ble_eq_true rfl) (e_X11_layState hK0 he1) dX11_runConfirmed_1 ?_
  refine v_aload_n o dX11_runConfirmed_4 rfl 0 rfl ?_
  refine v_aload_n o dX11_runConfirmed_5 rfl 0 rfl ?_
  refine gt_11_16 o hK0 ln_5_111 dX11_runConfirmed_6 ?_
  refine v_aload_n o dX11_runConfirmed_9 rfl 0 rfl ?_
  refine gt_11_18 o hK0 ln_5_113 dX11_runConfirmed_10 ?_
  obtain ⟨p4, he3, h⟩ := z_bind h
  refine v_callV o yw_X11_slotDigest ln_5_48 wi_X11_slotDigest ws_X11_slotDigest hX (by decide) 11 rfl hK0 (As := [.int (z_I D2 1116 a0), .int (z_I D2 1118 a0)]) rfl rfl (Nat.le_of_ble_eq_true rfl) (e_X11_slotDigest hK0 he3) dX11_runConfirmed_13 ?_
  refine v_aload_n o dX11_runConfirmed_16 rfl 0 rfl ?_
  refine gt_11_19 o hK0 ln_5_114 dX11_runConfirmed_17 ?_
  refine v_lcmp o dX11_runConfirmed_20 ?_
  refine v_if_ne o 28 dX11_runConfirmed_21 (by decide) (fun c5 => ?_) (fun c5 => ?_)
  · replace h := z_in c5 h
    refine v_iconst o (0 : Int32) dX11_runConfirmed_28 (by decide) ?_
    exact tj_X11_runConfirmed_29 o hX hK0 h
  · replace h := z_ip c5 h
    refine v_iconst o (1 : Int32) dX11_runConfirmed_24 (by decide) ?_
    refine v_goto o 29 dX11_runConfirmed_25 (by decide) ?_
    exact tj_X11_runConfirmed_29 o hX hK0 h
theorem e_X11_runConfirmed {q : z_Q} {l : Launch} {G : z_G} {D : z_D} {a0 : Nat}  {D1 : z_D} (hK0 : z_K G a0 = 111) (h : f_X11_runConfirmed G D a0 = some D1) : z_E q l yX11_runConfirmed cX11_runConfirmed 2 none 4 0 0 [.ref (z_w q a0)] G D none G D1 :=
  z_E.of (by decide) (Nat.le_of_ble_eq_true rfl) (fun X hX _ o => b_X11_runConfirmed o hX hK0 h)
def j_X11_boot_108 (G : z_G) (D : z_D) (a0 : Nat)  : Option (Int32 × z_D) :=
  (if (z_I D 1103 a0) = (0 : Int32) then ((f_X11_runConfirmed G D a0).bind (fun D7 => ((if (z_I D7 1108 a0) = (0 : Int32) then (((some ((-2 : Int32), D7)))) else ((some ((z_I D7 1108 a0), D7))))))) else ((some ((-3 : Int32), D))))
set_option maxRecDepth 100000 in
set_option maxHeartbeats 4000000 in
theorem tj_X11_boot_108 {q : z_Q} {X : z_X} {G : z_G} {D : z_D} {a0 : Nat}  {r : Int32} {D1 : z_D} (o : z_O q X cX11_boot 1 "FlashTrustModel" "boot" (some .int)) (hX : x_R X = z_rm 5 0 0) (hK0 : z_K G a0 = 111) (h : j_X11_boot_108 G D a0  = some (r, D1)) : z_V q X 1 (z_F q X (some (.int r)) G D1 0 0) 0 0 G D 108 [(0, .ref (z_w q a0))] [] := by
  unfold j_X11_boot_108 at h
  refine v_aload_n o dX11_boot_108 rfl 0 rfl ?_
  refine gt_11_3 o hK0 ln_5_98 dX11_boot_109 ?_
  refine v_if_eq o 118 dX11_boot_112 (by decide) (fun c5 => ?_) (fun c5 => ?_)
  · replace h := z_ip c5 h
    refine v_aload_n o dX11_boot_118 rfl 0 rfl ?_
    obtain ⟨D7, he6, h⟩ := z_bind h
    refine v_callV o yw_X11_runConfirmed ln_7_31 wi_X11_runConfirmed ws_X11_runConfirmed hX (by decide) 11 rfl hK0 (As := []) rfl rfl (Nat.le_of_ble_eq_true rfl) (e_X11_runConfirmed hK0 he6) dX11_boot_119 ?_
    refine v_aload_n o dX11_boot_122 rfl 0 rfl ?_
    refine gt_11_8 o hK0 ln_5_103 dX11_boot_123 ?_
    refine v_if_ne o 134 dX11_boot_126 (by decide) (fun c8 => ?_) (fun c8 => ?_)
    · replace h := z_in c8 h
      refine v_aload_n o dX11_boot_134 rfl 0 rfl ?_
      refine gt_11_8 o hK0 ln_5_103 dX11_boot_135 ?_
      obtain ⟨hr, hs⟩ := Prod.mk.inj (z_some h)
      subst hr
      subst hs
      exact v_ireturn o dX11_boot_138
    · replace h := z_ip c8 h
      refine v_bipush o (-2 : Int32) dX11_boot_129 (by decide) ?_
      refine v_goto o 138 dX11_boot_131 (by decide) ?_
      obtain ⟨hr, hs⟩ := Prod.mk.inj (z_some h)
      subst hr
      subst hs
      exact v_ireturn o dX11_boot_138
  · replace h := z_in c5 h
    refine v_bipush o (-3 : Int32) dX11_boot_115 (by decide) ?_
    obtain ⟨hr, hs⟩ := Prod.mk.inj (z_some h)
    subst hr
    subst hs
    exact v_ireturn o dX11_boot_117
def f_X11_boot (G : z_G) (D : z_D) (a0 : Nat) : Option (Int32 × z_D) :=
  (f_X11_layState G (z_sI (z_sI (z_sI (z_sI D 1103 a0 (0 : Int32)) 1148 a0 (0 : Int32)) 1108 a0 (0 : Int32)) 1109 a0 (0 : Int32)) a0).bind (fun D2 => ((if (z_I D2 1120 a0) = (2 : Int32) then ((f_X11_writeState G D2 a0 (3 : Int32)).bind (fun D12 => ((if (z_I D12 1103 a0) = (0 : Int32) then ((f_X11_slotDigest G D12 a0 ((1 : Int32) - (z_I D12 1116 a0)) (z_I D12 1122 a0)).bind (fun p15 => ((if (lg_cmp p15.1 (z_J p15.2 1123 a0)) = (0 : Int32) then ((some ((z_I (z_sI (z_sI p15.2 1108 a0 (z_I p15.2 1121 a0)) 1109 a0 (1 : Int32)) 1108 a0), (z_sI (z_sI p15.2 1108 a0 (z_I p15.2 1121 a0)) 1109 a0 (1 : Int32))))) else ((f_X11_writeState G p15.2 a0 (0 : Int32)).bind (fun D18 => ((j_X11_boot_108 G D18  a0)))))))) else ((some ((-3 : Int32), D12))))))) else ((if (z_I D2 1120 a0) = (3 : Int32) then ((f_X11_writeState G D2 a0 (0 : Int32)).bind (fun D10 => ((j_X11_boot_108 G D10  a0)))) else (j_X11_boot_108 G D2  a0))))))
set_option maxRecDepth 100000 in
set_option maxHeartbeats 4000000 in
theorem b_X11_boot {q : z_Q} {X : z_X} {G : z_G} {D : z_D} {a0 : Nat} {r : Int32} {D1 : z_D} (o : z_O q X cX11_boot 1 "FlashTrustModel" "boot" (some .int)) (hX : x_R X = z_rm 5 0 0) (hK0 : z_K G a0 = 111) (h : f_X11_boot G D a0 = some (r, D1)) : z_V q X 1 (z_F q X (some (.int r)) G D1 0 0) 0 0 G D 0 [(0, .ref (z_w q a0))] [] := by
  unfold f_X11_boot at h
  refine v_aload_n o dX11_boot_0 rfl 0 rfl ?_
  refine v_iconst o (0 : Int32) dX11_boot_1 (by decide) ?_
  refine pt_11_3 o hK0 ln_5_98 (by decide) dX11_boot_2 ?_
  refine v_aload_n o dX11_boot_5 rfl 0 rfl ?_
  refine v_iconst o (0 : Int32) dX11_boot_6 (by decide) ?_
  refine pt_11_48 o hK0 ln_5_143 dX11_boot_7 ?_
  refine v_aload_n o dX11_boot_10 rfl 0 rfl ?_
  refine v_iconst o (0 : Int32) dX11_boot_11 (by decide) ?_
  refine pt_11_8 o hK0 ln_5_103 dX11_boot_12 ?_
  refine v_aload_n o dX11_boot_15 rfl 0 rfl ?_
  refine v_iconst o (0 : Int32) dX11_boot_16 (by decide) ?_
  refine pt_11_9 o hK0 ln_5_104 (by decide) dX11_boot_17 ?_
  refine v_aload_n o dX11_boot_20 rfl 0 rfl ?_
  obtain ⟨D2, he1, h⟩ := z_bind h
  refine v_callV o yw_X11_layState ln_5_63 wi_X11_layState ws_X11_layState hX (by decide) 11 rfl hK0 (As := []) rfl rfl (Nat.le_of_ble_eq_true rfl) (e_X11_layState hK0 he1) dX11_boot_21 ?_
  refine v_aload_n o dX11_boot_24 rfl 0 rfl ?_
  refine gt_11_20 o hK0 ln_5_115 dX11_boot_25 ?_
  refine v_iconst o (2 : Int32) dX11_boot_28 (by decide) ?_
  refine v_icmp_ne o 95 dX11_boot_29 (by decide) (fun c3 => ?_) (fun c3 => ?_)
  · replace h := z_in c3 h
    refine v_aload_n o dX11_boot_95 rfl 0 rfl ?_
    refine gt_11_20 o hK0 ln_5_115 dX11_boot_96 ?_
    refine v_iconst o (3 : Int32) dX11_boot_99 (by decide) ?_
    refine v_icmp_ne o 108 dX11_boot_100 (by decide) (fun c4 => ?_) (fun c4 => ?_)
    · replace h := z_in c4 h
      exact tj_X11_boot_108 o hX hK0 h
    · replace h := z_ip c4 h
      refine v_aload_n o dX11_boot_103 rfl 0 rfl ?_
      refine v_iconst o (0 : Int32) dX11_boot_104 (by decide) ?_
      obtain ⟨D10, he9, h⟩ := z_bind h
      refine v_callV o yw_X11_writeState ln_6_129 wi_X11_writeState ws_X11_writeState hX (by decide) 11 rfl hK0 (As := [.int (0 : Int32)]) rfl rfl (Nat.le_of_ble_eq_true rfl) (e_X11_writeState hK0 he9) dX11_boot_105 ?_
      exact tj_X11_boot_108 o hX hK0 h
  · replace h := z_ip c3 h
    refine v_aload_n o dX11_boot_32 rfl 0 rfl ?_
    refine v_iconst o (3 : Int32) dX11_boot_33 (by decide) ?_
    obtain ⟨D12, he11, h⟩ := z_bind h
    refine v_callV o yw_X11_writeState ln_6_129 wi_X11_writeState ws_X11_writeState hX (by decide) 11 rfl hK0 (As := [.int (3 : Int32)]) rfl rfl (Nat.le_of_ble_eq_true rfl) (e_X11_writeState hK0 he11) dX11_boot_34 ?_
    refine v_aload_n o dX11_boot_37 rfl 0 rfl ?_
    refine gt_11_3 o hK0 ln_5_98 dX11_boot_38 ?_
    refine v_if_eq o 47 dX11_boot_41 (by decide) (fun c13 => ?_) (fun c13 => ?_)
    · replace h := z_ip c13 h
      refine v_aload_n o dX11_boot_47 rfl 0 rfl ?_
      refine v_iconst o (1 : Int32) dX11_boot_48 (by decide) ?_
      refine v_aload_n o dX11_boot_49 rfl 0 rfl ?_
      refine gt_11_16 o hK0 ln_5_111 dX11_boot_50 ?_
      refine v_isub o dX11_boot_53 ?_
      refine v_aload_n o dX11_boot_54 rfl 0 rfl ?_
      refine gt_11_22 o hK0 ln_5_117 dX11_boot_55 ?_
      obtain ⟨p15, he14, h⟩ := z_bind h
      refine v_callV o yw_X11_slotDigest ln_5_48 wi_X11_slotDigest ws_X11_slotDigest hX (by decide) 11 rfl hK0 (As := [.int ((1 : Int32) - (z_I D12 1116 a0)), .int (z_I D12 1122 a0)]) rfl rfl (Nat.le_of_ble_eq_true rfl) (e_X11_slotDigest hK0 he14) dX11_boot_58 ?_
      refine v_aload_n o dX11_boot_61 rfl 0 rfl ?_
      refine gt_11_23 o hK0 ln_5_118 dX11_boot_62 ?_
      refine v_lcmp o dX11_boot_65 ?_
      refine v_if_ne o 87 dX11_boot_66 (by decide) (fun c16 => ?_) (fun c16 => ?_)
      · replace h := z_in c16 h
        refine v_aload_n o dX11_boot_87 rfl 0 rfl ?_
        refine v_iconst o (0 : Int32) dX11_boot_88 (by decide) ?_
        obtain ⟨D18, he17, h⟩ := z_bind h
        refine v_callV o yw_X11_writeState ln_6_129 wi_X11_writeState ws_X11_writeState hX (by decide) 11 rfl hK0 (As := [.int (0 : Int32)]) rfl rfl (Nat.le_of_ble_eq_true rfl) (e_X11_writeState hK0 he17) dX11_boot_89 ?_
        refine v_goto o 108 dX11_boot_92 (by decide) ?_
        exact tj_X11_boot_108 o hX hK0 h
      · replace h := z_ip c16 h
        refine v_aload_n o dX11_boot_69 rfl 0 rfl ?_
        refine v_aload_n o dX11_boot_70 rfl 0 rfl ?_
        refine gt_11_21 o hK0 ln_5_116 dX11_boot_71 ?_
        refine pt_11_8 o hK0 ln_5_103 dX11_boot_74 ?_
        refine v_aload_n o dX11_boot_77 rfl 0 rfl ?_
        refine v_iconst o (1 : Int32) dX11_boot_78 (by decide) ?_
        refine pt_11_9 o hK0 ln_5_104 (by decide) dX11_boot_79 ?_
        refine v_aload_n o dX11_boot_82 rfl 0 rfl ?_
        refine gt_11_8 o hK0 ln_5_103 dX11_boot_83 ?_
        obtain ⟨hr, hs⟩ := Prod.mk.inj (z_some h)
        subst hr
        subst hs
        exact v_ireturn o dX11_boot_86
    · replace h := z_in c13 h
      refine v_bipush o (-3 : Int32) dX11_boot_44 (by decide) ?_
      obtain ⟨hr, hs⟩ := Prod.mk.inj (z_some h)
      subst hr
      subst hs
      exact v_ireturn o dX11_boot_46
theorem e_X11_boot {q : z_Q} {l : Launch} {G : z_G} {D : z_D} {a0 : Nat} {r : Int32} {D1 : z_D} (hK0 : z_K G a0 = 111) (h : f_X11_boot G D a0 = some (r, D1)) : z_E q l yX11_boot cX11_boot 1 (some .int) 5 0 0 [.ref (z_w q a0)] G D (some (.int r)) G D1 :=
  z_E.of (by decide) (Nat.le_of_ble_eq_true rfl) (fun X hX _ o => b_X11_boot o hX hK0 h)
def j_X11_test_69 (G : z_G) (D : z_D) (a0 : Nat) (a1 : Int32)  : Option (Int32 × z_D) :=
  (f_X11_writeState G D a0 (0 : Int32)).bind (fun D8 => ((if (z_I D8 1103 a0) = (0 : Int32) then ((if a1 = (0 : Int32) then ((some ((z_I (z_sI (z_sI D8 1109 a0 (0 : Int32)) 1108 a0 (0 : Int32)) 1108 a0), (z_sI (z_sI D8 1109 a0 (0 : Int32)) 1108 a0 (0 : Int32))))) else (((some ((z_I (z_sI (z_sI D8 1109 a0 (0 : Int32)) 1108 a0 (z_I (z_sI D8 1109 a0 (0 : Int32)) 1108 a0)) 1108 a0), (z_sI (z_sI D8 1109 a0 (0 : Int32)) 1108 a0 (z_I (z_sI D8 1109 a0 (0 : Int32)) 1108 a0)))))))) else ((some ((-3 : Int32), D8))))))
set_option maxRecDepth 100000 in
set_option maxHeartbeats 4000000 in
theorem tj_X11_test_69 {q : z_Q} {X : z_X} {G : z_G} {D : z_D} {a0 : Nat} {a1 : Int32}  {r : Int32} {D1 : z_D} (o : z_O q X cX11_test 2 "FlashTrustModel" "test" (some .int)) (hX : x_R X = z_rm 5 0 0) (hK0 : z_K G a0 = 111) (h : j_X11_test_69 G D a0 a1  = some (r, D1)) : z_V q X 2 (z_F q X (some (.int r)) G D1 0 0) 0 0 G D 69 [(0, .ref (z_w q a0)), (1, .int a1)] [] := by
  unfold j_X11_test_69 at h
  refine v_aload_n o dX11_test_69 rfl 0 rfl ?_
  refine v_iconst o (0 : Int32) dX11_test_70 (by decide) ?_
  obtain ⟨D8, he7, h⟩ := z_bind h
  refine v_callV o yw_X11_writeState ln_6_129 wi_X11_writeState ws_X11_writeState hX (by decide) 11 rfl hK0 (As := [.int (0 : Int32)]) rfl rfl (Nat.le_of_ble_eq_true rfl) (e_X11_writeState hK0 he7) dX11_test_71 ?_
  refine v_aload_n o dX11_test_74 rfl 0 rfl ?_
  refine gt_11_3 o hK0 ln_5_98 dX11_test_75 ?_
  refine v_if_eq o 84 dX11_test_78 (by decide) (fun c9 => ?_) (fun c9 => ?_)
  · replace h := z_ip c9 h
    refine v_aload_n o dX11_test_84 rfl 0 rfl ?_
    refine v_iconst o (0 : Int32) dX11_test_85 (by decide) ?_
    refine pt_11_9 o hK0 ln_5_104 (by decide) dX11_test_86 ?_
    refine v_aload_n o dX11_test_89 rfl 0 rfl ?_
    refine v_iload_n o dX11_test_90 rfl 1 rfl ?_
    refine v_if_eq o 101 dX11_test_91 (by decide) (fun c10 => ?_) (fun c10 => ?_)
    · replace h := z_ip c10 h
      refine v_iconst o (0 : Int32) dX11_test_101 (by decide) ?_
      refine pt_11_8 o hK0 ln_5_103 dX11_test_102 ?_
      refine v_aload_n o dX11_test_105 rfl 0 rfl ?_
      refine gt_11_8 o hK0 ln_5_103 dX11_test_106 ?_
      obtain ⟨hr, hs⟩ := Prod.mk.inj (z_some h)
      subst hr
      subst hs
      exact v_ireturn o dX11_test_109
    · replace h := z_in c10 h
      refine v_aload_n o dX11_test_94 rfl 0 rfl ?_
      refine gt_11_8 o hK0 ln_5_103 dX11_test_95 ?_
      refine v_goto o 102 dX11_test_98 (by decide) ?_
      refine pt_11_8 o hK0 ln_5_103 dX11_test_102 ?_
      refine v_aload_n o dX11_test_105 rfl 0 rfl ?_
      refine gt_11_8 o hK0 ln_5_103 dX11_test_106 ?_
      obtain ⟨hr, hs⟩ := Prod.mk.inj (z_some h)
      subst hr
      subst hs
      exact v_ireturn o dX11_test_109
  · replace h := z_in c9 h
    refine v_bipush o (-3 : Int32) dX11_test_81 (by decide) ?_
    obtain ⟨hr, hs⟩ := Prod.mk.inj (z_some h)
    subst hr
    subst hs
    exact v_ireturn o dX11_test_83
def f_X11_test (G : z_G) (D : z_D) (a0 : Nat) (a1 : Int32) : Option (Int32 × z_D) :=
  (if (z_I D 1103 a0) = (0 : Int32) then ((if (z_I D 1108 a0) = (0 : Int32) then ((some ((-4 : Int32), D))) else ((if (z_I D 1109 a0) = (0 : Int32) then ((some ((-4 : Int32), D))) else ((f_X11_layState G D a0).bind (fun D5 => ((if a1 = (0 : Int32) then (j_X11_test_69 G D5  a0 a1) else ((j_X11_test_69 G (z_sJ (z_sI (z_sI (z_sI D5 1116 a0 ((1 : Int32) - (z_I D5 1116 a0))) 1117 a0 (z_I (z_sI D5 1116 a0 ((1 : Int32) - (z_I D5 1116 a0))) 1121 a0)) 1118 a0 (z_I (z_sI (z_sI D5 1116 a0 ((1 : Int32) - (z_I D5 1116 a0))) 1117 a0 (z_I (z_sI D5 1116 a0 ((1 : Int32) - (z_I D5 1116 a0))) 1121 a0)) 1122 a0)) 1119 a0 (z_J (z_sI (z_sI (z_sI D5 1116 a0 ((1 : Int32) - (z_I D5 1116 a0))) 1117 a0 (z_I (z_sI D5 1116 a0 ((1 : Int32) - (z_I D5 1116 a0))) 1121 a0)) 1118 a0 (z_I (z_sI (z_sI D5 1116 a0 ((1 : Int32) - (z_I D5 1116 a0))) 1117 a0 (z_I (z_sI D5 1116 a0 ((1 : Int32) - (z_I D5 1116 a0))) 1121 a0)) 1122 a0)) 1123 a0))  a0 a1)))))))))) else ((some ((-3 : Int32), D))))
set_option maxRecDepth 100000 in
set_option maxHeartbeats 4000000 in
theorem b_X11_test {q : z_Q} {X : z_X} {G : z_G} {D : z_D} {a0 : Nat} {a1 : Int32} {r : Int32} {D1 : z_D} (o : z_O q X cX11_test 2 "FlashTrustModel" "test" (some .int)) (hX : x_R X = z_rm 5 0 0) (hK0 : z_K G a0 = 111) (h : f_X11_test G D a0 a1 = some (r, D1)) : z_V q X 2 (z_F q X (some (.int r)) G D1 0 0) 0 0 G D 0 [(0, .ref (z_w q a0)), (1, .int a1)] [] := by
  unfold f_X11_test at h
  refine v_aload_n o dX11_test_0 rfl 0 rfl ?_
  refine gt_11_3 o hK0 ln_5_98 dX11_test_1 ?_
  refine v_if_eq o 10 dX11_test_4 (by decide) (fun c1 => ?_) (fun c1 => ?_)
  · replace h := z_ip c1 h
    refine v_aload_n o dX11_test_10 rfl 0 rfl ?_
    refine gt_11_8 o hK0 ln_5_103 dX11_test_11 ?_
    refine v_if_eq o 24 dX11_test_14 (by decide) (fun c2 => ?_) (fun c2 => ?_)
    · replace h := z_ip c2 h
      refine v_bipush o (-4 : Int32) dX11_test_24 (by decide) ?_
      obtain ⟨hr, hs⟩ := Prod.mk.inj (z_some h)
      subst hr
      subst hs
      exact v_ireturn o dX11_test_26
    · replace h := z_in c2 h
      refine v_aload_n o dX11_test_17 rfl 0 rfl ?_
      refine gt_11_9 o hK0 ln_5_104 dX11_test_18 ?_
      refine v_if_ne o 27 dX11_test_21 (by decide) (fun c3 => ?_) (fun c3 => ?_)
      · replace h := z_in c3 h
        refine v_aload_n o dX11_test_27 rfl 0 rfl ?_
        obtain ⟨D5, he4, h⟩ := z_bind h
        refine v_callV o yw_X11_layState ln_5_63 wi_X11_layState ws_X11_layState hX (by decide) 11 rfl hK0 (As := []) rfl rfl (Nat.le_of_ble_eq_true rfl) (e_X11_layState hK0 he4) dX11_test_28 ?_
        refine v_iload_n o dX11_test_31 rfl 1 rfl ?_
        refine v_if_eq o 69 dX11_test_32 (by decide) (fun c6 => ?_) (fun c6 => ?_)
        · replace h := z_ip c6 h
          exact tj_X11_test_69 o hX hK0 h
        · replace h := z_in c6 h
          refine v_aload_n o dX11_test_35 rfl 0 rfl ?_
          refine v_iconst o (1 : Int32) dX11_test_36 (by decide) ?_
          refine v_aload_n o dX11_test_37 rfl 0 rfl ?_
          refine gt_11_16 o hK0 ln_5_111 dX11_test_38 ?_
          refine v_isub o dX11_test_41 ?_
          refine pt_11_16 o hK0 ln_5_111 dX11_test_42 ?_
          refine v_aload_n o dX11_test_45 rfl 0 rfl ?_
          refine v_aload_n o dX11_test_46 rfl 0 rfl ?_
          refine gt_11_21 o hK0 ln_5_116 dX11_test_47 ?_
          refine pt_11_17 o hK0 ln_5_112 dX11_test_50 ?_
          refine v_aload_n o dX11_test_53 rfl 0 rfl ?_
          refine v_aload_n o dX11_test_54 rfl 0 rfl ?_
          refine gt_11_22 o hK0 ln_5_117 dX11_test_55 ?_
          refine pt_11_18 o hK0 ln_5_113 dX11_test_58 ?_
          refine v_aload_n o dX11_test_61 rfl 0 rfl ?_
          refine v_aload_n o dX11_test_62 rfl 0 rfl ?_
          refine gt_11_23 o hK0 ln_5_118 dX11_test_63 ?_
          refine pt_11_19 o hK0 ln_5_114 dX11_test_66 ?_
          exact tj_X11_test_69 o hX hK0 h
      · replace h := z_ip c3 h
        refine v_bipush o (-4 : Int32) dX11_test_24 (by decide) ?_
        obtain ⟨hr, hs⟩ := Prod.mk.inj (z_some h)
        subst hr
        subst hs
        exact v_ireturn o dX11_test_26
  · replace h := z_in c1 h
    refine v_bipush o (-3 : Int32) dX11_test_7 (by decide) ?_
    obtain ⟨hr, hs⟩ := Prod.mk.inj (z_some h)
    subst hr
    subst hs
    exact v_ireturn o dX11_test_9
theorem e_X11_test {q : z_Q} {l : Launch} {G : z_G} {D : z_D} {a0 : Nat} {a1 : Int32} {r : Int32} {D1 : z_D} (hK0 : z_K G a0 = 111) (h : f_X11_test G D a0 a1 = some (r, D1)) : z_E q l yX11_test cX11_test 2 (some .int) 5 0 0 [.ref (z_w q a0), .int a1] G D (some (.int r)) G D1 :=
  z_E.of (by decide) (Nat.le_of_ble_eq_true rfl) (fun X hX _ o => b_X11_test o hX hK0 h)
def f_X11_told (G : z_G) (D : z_D) (a0 : Nat) (a1 : Int32) : Option (Int32 × z_D) :=
  (f_X11_layState G D a0).bind (fun D2 => ((if a1 = (0 : Int32) then ((if (z_I D2 1103 a0) = (0 : Int32) then ((some ((0 : Int32), D2))) else (((some ((1 : Int32), D2)))))) else (if a1 = (1 : Int32) then ((some ((z_I D2 1108 a0), D2))) else (if a1 = (2 : Int32) then ((if (z_I D2 1109 a0) = (0 : Int32) then ((some ((0 : Int32), D2))) else (((some ((1 : Int32), D2)))))) else (if a1 = (3 : Int32) then ((some ((z_I D2 1116 a0), D2))) else (if a1 = (4 : Int32) then ((some ((z_I D2 1117 a0), D2))) else (if a1 = (5 : Int32) then ((some ((z_I D2 1118 a0), D2))) else (if a1 = (6 : Int32) then ((some ((z_I D2 1120 a0), D2))) else (if a1 = (7 : Int32) then ((some ((z_I D2 1121 a0), D2))) else (if a1 = (8 : Int32) then ((some ((z_I D2 1122 a0), D2))) else (if a1 = (9 : Int32) then ((some ((z_I D2 1115 a0), D2))) else (if a1 = (10 : Int32) then ((some ((z_I D2 1104 a0), D2))) else (if a1 = (11 : Int32) then ((some ((z_I D2 1105 a0), D2))) else (if a1 = (12 : Int32) then ((some ((z_I D2 1106 a0), D2))) else (if a1 = (13 : Int32) then ((some ((z_I D2 1150 a0), D2))) else (if a1 = (14 : Int32) then ((if (z_I D2 1148 a0) = (0 : Int32) then (((some ((0 : Int32), D2)))) else ((some ((z_I D2 1149 a0), D2))))) else ((some ((-1 : Int32), D2))))))))))))))))))))
set_option maxRecDepth 100000 in
set_option maxHeartbeats 4000000 in
theorem b_X11_told {q : z_Q} {X : z_X} {G : z_G} {D : z_D} {a0 : Nat} {a1 : Int32} {r : Int32} {D1 : z_D} (o : z_O q X cX11_told 2 "FlashTrustModel" "told" (some .int)) (hX : x_R X = z_rm 4 0 0) (hK0 : z_K G a0 = 111) (h : f_X11_told G D a0 a1 = some (r, D1)) : z_V q X 2 (z_F q X (some (.int r)) G D1 0 0) 0 0 G D 0 [(0, .ref (z_w q a0)), (1, .int a1)] [] := by
  unfold f_X11_told at h
  refine v_aload_n o dX11_told_0 rfl 0 rfl ?_
  obtain ⟨D2, he1, h⟩ := z_bind h
  refine v_callV o yw_X11_layState ln_5_63 wi_X11_layState ws_X11_layState hX (by decide) 11 rfl hK0 (As := []) rfl rfl (Nat.le_of_ble_eq_true rfl) (e_X11_layState hK0 he1) dX11_told_1 ?_
  refine v_iload_n o dX11_told_4 rfl 1 rfl ?_
  by_cases c3 : a1 = (0 : Int32)
  · replace h := z_ip c3 h
    refine v_tabAt o (0 : Int32) 80 dX11_told_5 c3 (by decide) (by decide) rfl (by decide) ?_
    refine v_aload_n o dX11_told_80 rfl 0 rfl ?_
    refine gt_11_3 o hK0 ln_5_98 dX11_told_81 ?_
    refine v_if_eq o 91 dX11_told_84 (by decide) (fun c4 => ?_) (fun c4 => ?_)
    · replace h := z_ip c4 h
      refine v_iconst o (0 : Int32) dX11_told_91 (by decide) ?_
      obtain ⟨hr, hs⟩ := Prod.mk.inj (z_some h)
      subst hr
      subst hs
      exact v_ireturn o dX11_told_92
    · replace h := z_in c4 h
      refine v_iconst o (1 : Int32) dX11_told_87 (by decide) ?_
      refine v_goto o 92 dX11_told_88 (by decide) ?_
      obtain ⟨hr, hs⟩ := Prod.mk.inj (z_some h)
      subst hr
      subst hs
      exact v_ireturn o dX11_told_92
  · replace h := z_in c3 h
    by_cases c5 : a1 = (1 : Int32)
    · replace h := z_ip c5 h
      refine v_tabAt o (1 : Int32) 93 dX11_told_5 c5 (by decide) (by decide) rfl (by decide) ?_
      refine v_aload_n o dX11_told_93 rfl 0 rfl ?_
      refine gt_11_8 o hK0 ln_5_103 dX11_told_94 ?_
      obtain ⟨hr, hs⟩ := Prod.mk.inj (z_some h)
      subst hr
      subst hs
      exact v_ireturn o dX11_told_97
    · replace h := z_in c5 h
      by_cases c6 : a1 = (2 : Int32)
      · replace h := z_ip c6 h
        refine v_tabAt o (2 : Int32) 98 dX11_told_5 c6 (by decide) (by decide) rfl (by decide) ?_
        refine v_aload_n o dX11_told_98 rfl 0 rfl ?_
        refine gt_11_9 o hK0 ln_5_104 dX11_told_99 ?_
        refine v_if_eq o 109 dX11_told_102 (by decide) (fun c7 => ?_) (fun c7 => ?_)
        · replace h := z_ip c7 h
          refine v_iconst o (0 : Int32) dX11_told_109 (by decide) ?_
          obtain ⟨hr, hs⟩ := Prod.mk.inj (z_some h)
          subst hr
          subst hs
          exact v_ireturn o dX11_told_110
        · replace h := z_in c7 h
          refine v_iconst o (1 : Int32) dX11_told_105 (by decide) ?_
          refine v_goto o 110 dX11_told_106 (by decide) ?_
          obtain ⟨hr, hs⟩ := Prod.mk.inj (z_some h)
          subst hr
          subst hs
          exact v_ireturn o dX11_told_110
      · replace h := z_in c6 h
        by_cases c8 : a1 = (3 : Int32)
        · replace h := z_ip c8 h
          refine v_tabAt o (3 : Int32) 111 dX11_told_5 c8 (by decide) (by decide) rfl (by decide) ?_
          refine v_aload_n o dX11_told_111 rfl 0 rfl ?_
          refine gt_11_16 o hK0 ln_5_111 dX11_told_112 ?_
          obtain ⟨hr, hs⟩ := Prod.mk.inj (z_some h)
          subst hr
          subst hs
          exact v_ireturn o dX11_told_115
        · replace h := z_in c8 h
          by_cases c9 : a1 = (4 : Int32)
          · replace h := z_ip c9 h
            refine v_tabAt o (4 : Int32) 116 dX11_told_5 c9 (by decide) (by decide) rfl (by decide) ?_
            refine v_aload_n o dX11_told_116 rfl 0 rfl ?_
            refine gt_11_17 o hK0 ln_5_112 dX11_told_117 ?_
            obtain ⟨hr, hs⟩ := Prod.mk.inj (z_some h)
            subst hr
            subst hs
            exact v_ireturn o dX11_told_120
          · replace h := z_in c9 h
            by_cases c10 : a1 = (5 : Int32)
            · replace h := z_ip c10 h
              refine v_tabAt o (5 : Int32) 121 dX11_told_5 c10 (by decide) (by decide) rfl (by decide) ?_
              refine v_aload_n o dX11_told_121 rfl 0 rfl ?_
              refine gt_11_18 o hK0 ln_5_113 dX11_told_122 ?_
              obtain ⟨hr, hs⟩ := Prod.mk.inj (z_some h)
              subst hr
              subst hs
              exact v_ireturn o dX11_told_125
            · replace h := z_in c10 h
              by_cases c11 : a1 = (6 : Int32)
              · replace h := z_ip c11 h
                refine v_tabAt o (6 : Int32) 126 dX11_told_5 c11 (by decide) (by decide) rfl (by decide) ?_
                refine v_aload_n o dX11_told_126 rfl 0 rfl ?_
                refine gt_11_20 o hK0 ln_5_115 dX11_told_127 ?_
                obtain ⟨hr, hs⟩ := Prod.mk.inj (z_some h)
                subst hr
                subst hs
                exact v_ireturn o dX11_told_130
              · replace h := z_in c11 h
                by_cases c12 : a1 = (7 : Int32)
                · replace h := z_ip c12 h
                  refine v_tabAt o (7 : Int32) 131 dX11_told_5 c12 (by decide) (by decide) rfl (by decide) ?_
                  refine v_aload_n o dX11_told_131 rfl 0 rfl ?_
                  refine gt_11_21 o hK0 ln_5_116 dX11_told_132 ?_
                  obtain ⟨hr, hs⟩ := Prod.mk.inj (z_some h)
                  subst hr
                  subst hs
                  exact v_ireturn o dX11_told_135
                · replace h := z_in c12 h
                  by_cases c13 : a1 = (8 : Int32)
                  · replace h := z_ip c13 h
                    refine v_tabAt o (8 : Int32) 136 dX11_told_5 c13 (by decide) (by decide) rfl (by decide) ?_
                    refine v_aload_n o dX11_told_136 rfl 0 rfl ?_
                    refine gt_11_22 o hK0 ln_5_117 dX11_told_137 ?_
                    obtain ⟨hr, hs⟩ := Prod.mk.inj (z_some h)
                    subst hr
                    subst hs
                    exact v_ireturn o dX11_told_140
                  · replace h := z_in c13 h
                    by_cases c14 : a1 = (9 : Int32)
                    · replace h := z_ip c14 h
                      refine v_tabAt o (9 : Int32) 141 dX11_told_5 c14 (by decide) (by decide) rfl (by decide) ?_
                      refine v_aload_n o dX11_told_141 rfl 0 rfl ?_
                      refine gt_11_15 o hK0 ln_5_110 dX11_told_142 ?_
                      obtain ⟨hr, hs⟩ := Prod.mk.inj (z_some h)
                      subst hr
                      subst hs
                      exact v_ireturn o dX11_told_145
                    · replace h := z_in c14 h
                      by_cases c15 : a1 = (10 : Int32)
                      · replace h := z_ip c15 h
                        refine v_tabAt o (10 : Int32) 146 dX11_told_5 c15 (by decide) (by decide) rfl (by decide) ?_
                        refine v_aload_n o dX11_told_146 rfl 0 rfl ?_
                        refine gt_11_4 o hK0 ln_5_99 dX11_told_147 ?_
                        obtain ⟨hr, hs⟩ := Prod.mk.inj (z_some h)
                        subst hr
                        subst hs
                        exact v_ireturn o dX11_told_150
                      · replace h := z_in c15 h
                        by_cases c16 : a1 = (11 : Int32)
                        · replace h := z_ip c16 h
                          refine v_tabAt o (11 : Int32) 151 dX11_told_5 c16 (by decide) (by decide) rfl (by decide) ?_
                          refine v_aload_n o dX11_told_151 rfl 0 rfl ?_
                          refine gt_11_5 o hK0 ln_5_100 dX11_told_152 ?_
                          obtain ⟨hr, hs⟩ := Prod.mk.inj (z_some h)
                          subst hr
                          subst hs
                          exact v_ireturn o dX11_told_155
                        · replace h := z_in c16 h
                          by_cases c17 : a1 = (12 : Int32)
                          · replace h := z_ip c17 h
                            refine v_tabAt o (12 : Int32) 156 dX11_told_5 c17 (by decide) (by decide) rfl (by decide) ?_
                            refine v_aload_n o dX11_told_156 rfl 0 rfl ?_
                            refine gt_11_6 o hK0 ln_5_101 dX11_told_157 ?_
                            obtain ⟨hr, hs⟩ := Prod.mk.inj (z_some h)
                            subst hr
                            subst hs
                            exact v_ireturn o dX11_told_160
                          · replace h := z_in c17 h
                            by_cases c18 : a1 = (13 : Int32)
                            · replace h := z_ip c18 h
                              refine v_tabAt o (13 : Int32) 161 dX11_told_5 c18 (by decide) (by decide) rfl (by decide) ?_
                              refine v_aload_n o dX11_told_161 rfl 0 rfl ?_
                              refine gt_11_50 o hK0 ln_5_145 dX11_told_162 ?_
                              obtain ⟨hr, hs⟩ := Prod.mk.inj (z_some h)
                              subst hr
                              subst hs
                              exact v_ireturn o dX11_told_165
                            · replace h := z_in c18 h
                              by_cases c19 : a1 = (14 : Int32)
                              · replace h := z_ip c19 h
                                refine v_tabAt o (14 : Int32) 166 dX11_told_5 c19 (by decide) (by decide) rfl (by decide) ?_
                                refine v_aload_n o dX11_told_166 rfl 0 rfl ?_
                                refine gt_11_48 o hK0 ln_5_143 dX11_told_167 ?_
                                refine v_if_ne o 177 dX11_told_170 (by decide) (fun c20 => ?_) (fun c20 => ?_)
                                · replace h := z_in c20 h
                                  refine v_aload_n o dX11_told_177 rfl 0 rfl ?_
                                  refine gt_11_49 o hK0 ln_5_144 dX11_told_178 ?_
                                  obtain ⟨hr, hs⟩ := Prod.mk.inj (z_some h)
                                  subst hr
                                  subst hs
                                  exact v_ireturn o dX11_told_181
                                · replace h := z_ip c20 h
                                  refine v_iconst o (0 : Int32) dX11_told_173 (by decide) ?_
                                  refine v_goto o 181 dX11_told_174 (by decide) ?_
                                  obtain ⟨hr, hs⟩ := Prod.mk.inj (z_some h)
                                  subst hr
                                  subst hs
                                  exact v_ireturn o dX11_told_181
                              · replace h := z_in c19 h
                                refine v_tabOut o 182 dX11_told_5 ?_ (by decide) ?_
                                · by_cases hl : (a1).toInt < 0
                                  · exact Or.inl hl
                                  · by_cases hu : 14 < (a1).toInt
                                    · exact Or.inr hu
                                    · exfalso
                                      have hh : (a1).toInt = 0 ∨ (a1).toInt = 1 ∨ (a1).toInt = 2 ∨ (a1).toInt = 3 ∨ (a1).toInt = 4 ∨ (a1).toInt = 5 ∨ (a1).toInt = 6 ∨ (a1).toInt = 7 ∨ (a1).toInt = 8 ∨ (a1).toInt = 9 ∨ (a1).toInt = 10 ∨ (a1).toInt = 11 ∨ (a1).toInt = 12 ∨ (a1).toInt = 13 ∨ (a1).toInt = 14 := by omega
                                      rcases hh with hh | hh | hh | hh | hh | hh | hh | hh | hh | hh | hh | hh | hh | hh | hh
                                      · exact c3 (z_i32 hh (by decide))
                                      · exact c5 (z_i32 hh (by decide))
                                      · exact c6 (z_i32 hh (by decide))
                                      · exact c8 (z_i32 hh (by decide))
                                      · exact c9 (z_i32 hh (by decide))
                                      · exact c10 (z_i32 hh (by decide))
                                      · exact c11 (z_i32 hh (by decide))
                                      · exact c12 (z_i32 hh (by decide))
                                      · exact c13 (z_i32 hh (by decide))
                                      · exact c14 (z_i32 hh (by decide))
                                      · exact c15 (z_i32 hh (by decide))
                                      · exact c16 (z_i32 hh (by decide))
                                      · exact c17 (z_i32 hh (by decide))
                                      · exact c18 (z_i32 hh (by decide))
                                      · exact c19 (z_i32 hh (by decide))
                                · refine v_iconst o (-1 : Int32) dX11_told_182 (by decide) ?_
                                  obtain ⟨hr, hs⟩ := Prod.mk.inj (z_some h)
                                  subst hr
                                  subst hs
                                  exact v_ireturn o dX11_told_183
theorem e_X11_told {q : z_Q} {l : Launch} {G : z_G} {D : z_D} {a0 : Nat} {a1 : Int32} {r : Int32} {D1 : z_D} (hK0 : z_K G a0 = 111) (h : f_X11_told G D a0 a1 = some (r, D1)) : z_E q l yX11_told cX11_told 2 (some .int) 4 0 0 [.ref (z_w q a0), .int a1] G D (some (.int r)) G D1 :=
  z_E.of (by decide) (Nat.le_of_ble_eq_true rfl) (fun X hX _ o => b_X11_told o hX hK0 h)
def j_X11_trusted_112 (G : z_G) (D : z_D) (a0 : Nat) (a2 : Int32) (a3 : Int32) (s0 : Int32) : Option (Int32 × z_D) :=
  (if s0 = (0 : Int32) then (((some ((-1 : Int32), D)))) else ((if a2 = (4 : Int32) then (z_gK G 1 (z_R G 1133 a0) (z_gA G 1 (z_R G 1133 a0) a3 (((some ((z_U D (z_R G 1133 a0) (a3).toNatClampNeg), D)))))) else (z_gK G 1 (z_R G 1134 a0) (z_gA G 1 (z_R G 1134 a0) a3 ((some ((z_U D (z_R G 1134 a0) (a3).toNatClampNeg), D))))))))
set_option maxRecDepth 100000 in
set_option maxHeartbeats 4000000 in
theorem tj_X11_trusted_112 {q : z_Q} {X : z_X} {G : z_G} {D : z_D} {a0 : Nat} {a2 : Int32} {a3 : Int32} {s0 : Int32} {r : Int32} {D1 : z_D} (o : z_O q X cX11_trusted 6 "FlashTrustModel" "trusted" (some .int)) (hX : x_R X = z_rm 7 0 0) (hK0 : z_K G a0 = 111) (h : j_X11_trusted_112 G D a0 a2 a3 s0 = some (r, D1)) : z_V q X 6 (z_F q X (some (.int r)) G D1 0 0) 0 0 G D 112 [(0, .ref (z_w q a0)), (2, .int a2), (3, .int a3)] [.int s0] := by
  unfold j_X11_trusted_112 at h
  refine v_istore o [(5, .int s0), (0, .ref (z_w q a0)), (2, .int a2), (3, .int a3)] dX11_trusted_112 (by decide) rfl ?_
  refine v_iload o dX11_trusted_114 0 rfl ?_
  refine v_if_ne o 123 dX11_trusted_116 (by decide) (fun c26 => ?_) (fun c26 => ?_)
  · replace h := z_in c26 h
    refine v_iload_n o dX11_trusted_123 rfl 2 rfl ?_
    refine v_iconst o (4 : Int32) dX11_trusted_124 (by decide) ?_
    refine v_icmp_ne o 137 dX11_trusted_125 (by decide) (fun c27 => ?_) (fun c27 => ?_)
    · replace h := z_in c27 h
      refine v_aload_n o dX11_trusted_137 rfl 1 rfl ?_
      obtain ⟨n28, h⟩ := z_gK_of h
      refine gt_11_34 o hK0 ln_5_129 (by rw [n28]; decide) dX11_trusted_138 ?_
      refine v_iload_n o dX11_trusted_141 rfl 3 rfl ?_
      obtain ⟨n29, n30, h⟩ := z_gA_of h
      refine v_iald o n29 n30 dX11_trusted_142 ?_
      obtain ⟨hr, hs⟩ := Prod.mk.inj (z_some h)
      subst hr
      subst hs
      exact v_ireturn o dX11_trusted_143
    · replace h := z_ip c27 h
      refine v_aload_n o dX11_trusted_128 rfl 1 rfl ?_
      obtain ⟨n31, h⟩ := z_gK_of h
      refine gt_11_33 o hK0 ln_5_128 (by rw [n31]; decide) dX11_trusted_129 ?_
      refine v_iload_n o dX11_trusted_132 rfl 3 rfl ?_
      obtain ⟨n32, n33, h⟩ := z_gA_of h
      refine v_iald o n32 n33 dX11_trusted_133 ?_
      refine v_goto o 143 dX11_trusted_134 (by decide) ?_
      obtain ⟨hr, hs⟩ := Prod.mk.inj (z_some h)
      subst hr
      subst hs
      exact v_ireturn o dX11_trusted_143
  · replace h := z_ip c26 h
    refine v_iconst o (-1 : Int32) dX11_trusted_119 (by decide) ?_
    refine v_goto o 143 dX11_trusted_120 (by decide) ?_
    obtain ⟨hr, hs⟩ := Prod.mk.inj (z_some h)
    subst hr
    subst hs
    exact v_ireturn o dX11_trusted_143
def j_X11_trusted_111 (G : z_G) (D : z_D) (a0 : Nat) (a2 : Int32) (a3 : Int32)  : Option (Int32 × z_D) :=
  (j_X11_trusted_112 G D  a0 a2 a3 (0 : Int32))
set_option maxRecDepth 100000 in
set_option maxHeartbeats 4000000 in
theorem tj_X11_trusted_111 {q : z_Q} {X : z_X} {G : z_G} {D : z_D} {a0 : Nat} {a2 : Int32} {a3 : Int32}  {r : Int32} {D1 : z_D} (o : z_O q X cX11_trusted 6 "FlashTrustModel" "trusted" (some .int)) (hX : x_R X = z_rm 7 0 0) (hK0 : z_K G a0 = 111) (h : j_X11_trusted_111 G D a0 a2 a3  = some (r, D1)) : z_V q X 6 (z_F q X (some (.int r)) G D1 0 0) 0 0 G D 111 [(0, .ref (z_w q a0)), (2, .int a2), (3, .int a3)] [] := by
  unfold j_X11_trusted_111 at h
  refine v_iconst o (0 : Int32) dX11_trusted_111 (by decide) ?_
  exact tj_X11_trusted_112 o hX hK0 h
def f_X11_trusted (G : z_G) (D : z_D) (a0 : Nat) (a1 : Int32) (a2 : Int32) (a3 : Int32) : Option (Int32 × z_D) :=
  (if a1 < (0 : Int32) then ((some ((-1 : Int32), D))) else ((if (3 : Int32) < a1 then ((some ((-1 : Int32), D))) else ((if a2 < (0 : Int32) then ((some ((-1 : Int32), D))) else ((if a2 ≤ (9 : Int32) then ((f_X11_takeTrusted G D a0 a1).bind (fun p6 => ((if a2 = (3 : Int32) then ((some ((z_I p6.2 1145 a0), p6.2))) else ((if p6.1 = (0 : Int32) then ((if a2 = (0 : Int32) then (((some ((-2 : Int32), p6.2)))) else ((some ((-1 : Int32), p6.2))))) else ((if (3 : Int32) ≤ a2 then ((if (6 : Int32) ≤ a2 then ((if a2 = (6 : Int32) then ((if a1 = (1 : Int32) then (((some ((z_I p6.2 1135 a0), p6.2)))) else ((if a1 = (2 : Int32) then (((some ((z_I p6.2 1135 a0), p6.2)))) else ((some ((-1 : Int32), p6.2))))))) else ((if a1 = (3 : Int32) then ((if a2 = (7 : Int32) then ((some ((z_I p6.2 1137 a0), p6.2))) else ((if a3 < (0 : Int32) then (((some ((-1 : Int32), p6.2)))) else ((if a3 < (z_I p6.2 1137 a0) then ((if a2 = (8 : Int32) then (z_gK G 1 (z_R G 1138 a0) (z_gA G 1 (z_R G 1138 a0) a3 (((some ((z_U p6.2 (z_R G 1138 a0) (a3).toNatClampNeg), p6.2)))))) else (z_gK G 1 (z_R G 1139 a0) (z_gA G 1 (z_R G 1139 a0) a3 ((some ((z_U p6.2 (z_R G 1139 a0) (a3).toNatClampNeg), p6.2))))))) else (((some ((-1 : Int32), p6.2)))))))))) else ((some ((-1 : Int32), p6.2))))))) else ((if a1 = (0 : Int32) then ((if a3 < (0 : Int32) then (j_X11_trusted_111 G p6.2  a0 a2 a3) else ((if (4 : Int32) ≤ a3 then (j_X11_trusted_111 G p6.2  a0 a2 a3) else ((j_X11_trusted_112 G p6.2  a0 a2 a3 (1 : Int32))))))) else (j_X11_trusted_111 G p6.2  a0 a2 a3))))) else ((if a2 = (0 : Int32) then (((some ((z_I p6.2 1131 a0), p6.2)))) else ((if a2 = (1 : Int32) then (((some (((z_J p6.2 1132 a0)).toInt32, p6.2)))) else ((some ((z_I p6.2 1130 a0), p6.2))))))))))))))) else ((some ((-1 : Int32), D))))))))))
set_option maxRecDepth 100000 in
set_option maxHeartbeats 4000000 in
theorem b_X11_trusted {q : z_Q} {X : z_X} {G : z_G} {D : z_D} {a0 : Nat} {a1 : Int32} {a2 : Int32} {a3 : Int32} {r : Int32} {D1 : z_D} (o : z_O q X cX11_trusted 6 "FlashTrustModel" "trusted" (some .int)) (hX : x_R X = z_rm 7 0 0) (hK0 : z_K G a0 = 111) (h : f_X11_trusted G D a0 a1 a2 a3 = some (r, D1)) : z_V q X 6 (z_F q X (some (.int r)) G D1 0 0) 0 0 G D 0 [(0, .ref (z_w q a0)), (1, .int a1), (2, .int a2), (3, .int a3)] [] := by
  unfold f_X11_trusted at h
  refine v_iload_n o dX11_trusted_0 rfl 1 rfl ?_
  refine v_if_lt o 19 dX11_trusted_1 (by decide) (fun c1 => ?_) (fun c1 => ?_)
  · replace h := z_ip c1 h
    refine v_iconst o (-1 : Int32) dX11_trusted_19 (by decide) ?_
    obtain ⟨hr, hs⟩ := Prod.mk.inj (z_some h)
    subst hr
    subst hs
    exact v_ireturn o dX11_trusted_20
  · replace h := z_in c1 h
    refine v_iload_n o dX11_trusted_4 rfl 1 rfl ?_
    refine v_iconst o (3 : Int32) dX11_trusted_5 (by decide) ?_
    refine v_icmp_gt o 19 dX11_trusted_6 (by decide) (fun c2 => ?_) (fun c2 => ?_)
    · replace h := z_ip c2 h
      refine v_iconst o (-1 : Int32) dX11_trusted_19 (by decide) ?_
      obtain ⟨hr, hs⟩ := Prod.mk.inj (z_some h)
      subst hr
      subst hs
      exact v_ireturn o dX11_trusted_20
    · replace h := z_in c2 h
      refine v_iload_n o dX11_trusted_9 rfl 2 rfl ?_
      refine v_if_lt o 19 dX11_trusted_10 (by decide) (fun c3 => ?_) (fun c3 => ?_)
      · replace h := z_ip c3 h
        refine v_iconst o (-1 : Int32) dX11_trusted_19 (by decide) ?_
        obtain ⟨hr, hs⟩ := Prod.mk.inj (z_some h)
        subst hr
        subst hs
        exact v_ireturn o dX11_trusted_20
      · replace h := z_in c3 h
        refine v_iload_n o dX11_trusted_13 rfl 2 rfl ?_
        refine v_bipush o (9 : Int32) dX11_trusted_14 (by decide) ?_
        refine v_icmp_le o 21 dX11_trusted_16 (by decide) (fun c4 => ?_) (fun c4 => ?_)
        · replace h := z_ip c4 h
          refine v_aload_n o dX11_trusted_21 rfl 0 rfl ?_
          refine v_iload_n o dX11_trusted_22 rfl 1 rfl ?_
          obtain ⟨p6, he5, h⟩ := z_bind h
          refine v_callV o yw_X11_takeTrusted ln_6_170 wi_X11_takeTrusted ws_X11_takeTrusted hX (by decide) 11 rfl hK0 (As := [.int a1]) rfl rfl (Nat.le_of_ble_eq_true rfl) (e_X11_takeTrusted hK0 he5) dX11_trusted_23 ?_
          refine v_istore o [(4, .int p6.1), (0, .ref (z_w q a0)), (1, .int a1), (2, .int a2), (3, .int a3)] dX11_trusted_26 (by decide) rfl ?_
          refine v_iload_n o dX11_trusted_28 rfl 3 rfl ?_
          refine v_iconst o (3 : Int32) dX11_trusted_29 (by decide) ?_
          refine v_icmp_ne o 38 dX11_trusted_30 (by decide) (fun c7 => ?_) (fun c7 => ?_)
          · replace h := z_in c7 h
            refine v_iload o dX11_trusted_38 0 rfl ?_
            refine v_if_ne o 54 dX11_trusted_40 (by decide) (fun c8 => ?_) (fun c8 => ?_)
            · replace h := z_in c8 h
              refine v_iload_n o dX11_trusted_54 rfl 3 rfl ?_
              refine v_iconst o (3 : Int32) dX11_trusted_55 (by decide) ?_
              refine v_icmp_ge o 88 dX11_trusted_56 (by decide) (fun c9 => ?_) (fun c9 => ?_)
              · replace h := z_ip c9 h
                refine v_iload_n o dX11_trusted_88 rfl 3 rfl ?_
                refine v_bipush o (6 : Int32) dX11_trusted_89 (by decide) ?_
                refine v_icmp_ge o 144 dX11_trusted_91 (by decide) (fun c10 => ?_) (fun c10 => ?_)
                · replace h := z_ip c10 h
                  refine v_iload_n o dX11_trusted_144 rfl 3 rfl ?_
                  refine v_bipush o (6 : Int32) dX11_trusted_145 (by decide) ?_
                  refine v_icmp_ne o 169 dX11_trusted_147 (by decide) (fun c11 => ?_) (fun c11 => ?_)
                  · replace h := z_in c11 h
                    refine v_iload_n o dX11_trusted_169 rfl 2 rfl ?_
                    refine v_iconst o (3 : Int32) dX11_trusted_170 (by decide) ?_
                    refine v_icmp_eq o 176 dX11_trusted_171 (by decide) (fun c12 => ?_) (fun c12 => ?_)
                    · replace h := z_ip c12 h
                      refine v_iload_n o dX11_trusted_176 rfl 3 rfl ?_
                      refine v_bipush o (7 : Int32) dX11_trusted_177 (by decide) ?_
                      refine v_icmp_ne o 187 dX11_trusted_179 (by decide) (fun c13 => ?_) (fun c13 => ?_)
                      · replace h := z_in c13 h
                        refine v_iload_n o dX11_trusted_187 rfl 4 rfl ?_
                        refine v_if_lt o 199 dX11_trusted_188 (by decide) (fun c14 => ?_) (fun c14 => ?_)
                        · replace h := z_ip c14 h
                          refine v_iconst o (-1 : Int32) dX11_trusted_199 (by decide) ?_
                          refine v_goto o 224 dX11_trusted_200 (by decide) ?_
                          obtain ⟨hr, hs⟩ := Prod.mk.inj (z_some h)
                          subst hr
                          subst hs
                          exact v_ireturn o dX11_trusted_224
                        · replace h := z_in c14 h
                          refine v_iload_n o dX11_trusted_191 rfl 4 rfl ?_
                          refine v_aload_n o dX11_trusted_192 rfl 1 rfl ?_
                          refine gt_11_37 o hK0 ln_5_132 dX11_trusted_193 ?_
                          refine v_icmp_lt o 203 dX11_trusted_196 (by decide) (fun c15 => ?_) (fun c15 => ?_)
                          · replace h := z_ip c15 h
                            refine v_iload_n o dX11_trusted_203 rfl 3 rfl ?_
                            refine v_bipush o (8 : Int32) dX11_trusted_204 (by decide) ?_
                            refine v_icmp_ne o 218 dX11_trusted_206 (by decide) (fun c16 => ?_) (fun c16 => ?_)
                            · replace h := z_in c16 h
                              refine v_aload_n o dX11_trusted_218 rfl 1 rfl ?_
                              obtain ⟨n17, h⟩ := z_gK_of h
                              refine gt_11_39 o hK0 ln_5_134 (by rw [n17]; decide) dX11_trusted_219 ?_
                              refine v_iload_n o dX11_trusted_222 rfl 4 rfl ?_
                              obtain ⟨n18, n19, h⟩ := z_gA_of h
                              refine v_iald o n18 n19 dX11_trusted_223 ?_
                              obtain ⟨hr, hs⟩ := Prod.mk.inj (z_some h)
                              subst hr
                              subst hs
                              exact v_ireturn o dX11_trusted_224
                            · replace h := z_ip c16 h
                              refine v_aload_n o dX11_trusted_209 rfl 1 rfl ?_
                              obtain ⟨n20, h⟩ := z_gK_of h
                              refine gt_11_38 o hK0 ln_5_133 (by rw [n20]; decide) dX11_trusted_210 ?_
                              refine v_iload_n o dX11_trusted_213 rfl 4 rfl ?_
                              obtain ⟨n21, n22, h⟩ := z_gA_of h
                              refine v_iald o n21 n22 dX11_trusted_214 ?_
                              refine v_goto o 224 dX11_trusted_215 (by decide) ?_
                              obtain ⟨hr, hs⟩ := Prod.mk.inj (z_some h)
                              subst hr
                              subst hs
                              exact v_ireturn o dX11_trusted_224
                          · replace h := z_in c15 h
                            refine v_iconst o (-1 : Int32) dX11_trusted_199 (by decide) ?_
                            refine v_goto o 224 dX11_trusted_200 (by decide) ?_
                            obtain ⟨hr, hs⟩ := Prod.mk.inj (z_some h)
                            subst hr
                            subst hs
                            exact v_ireturn o dX11_trusted_224
                      · replace h := z_ip c13 h
                        refine v_aload_n o dX11_trusted_182 rfl 1 rfl ?_
                        refine gt_11_37 o hK0 ln_5_132 dX11_trusted_183 ?_
                        obtain ⟨hr, hs⟩ := Prod.mk.inj (z_some h)
                        subst hr
                        subst hs
                        exact v_ireturn o dX11_trusted_186
                    · replace h := z_in c12 h
                      refine v_iconst o (-1 : Int32) dX11_trusted_174 (by decide) ?_
                      obtain ⟨hr, hs⟩ := Prod.mk.inj (z_some h)
                      subst hr
                      subst hs
                      exact v_ireturn o dX11_trusted_175
                  · replace h := z_ip c11 h
                    refine v_iload_n o dX11_trusted_150 rfl 2 rfl ?_
                    refine v_iconst o (1 : Int32) dX11_trusted_151 (by decide) ?_
                    refine v_icmp_eq o 160 dX11_trusted_152 (by decide) (fun c23 => ?_) (fun c23 => ?_)
                    · replace h := z_ip c23 h
                      refine v_aload_n o dX11_trusted_160 rfl 1 rfl ?_
                      refine gt_11_35 o hK0 ln_5_130 dX11_trusted_161 ?_
                      refine v_goto o 168 dX11_trusted_164 (by decide) ?_
                      obtain ⟨hr, hs⟩ := Prod.mk.inj (z_some h)
                      subst hr
                      subst hs
                      exact v_ireturn o dX11_trusted_168
                    · replace h := z_in c23 h
                      refine v_iload_n o dX11_trusted_155 rfl 2 rfl ?_
                      refine v_iconst o (2 : Int32) dX11_trusted_156 (by decide) ?_
                      refine v_icmp_ne o 167 dX11_trusted_157 (by decide) (fun c24 => ?_) (fun c24 => ?_)
                      · replace h := z_in c24 h
                        refine v_iconst o (-1 : Int32) dX11_trusted_167 (by decide) ?_
                        obtain ⟨hr, hs⟩ := Prod.mk.inj (z_some h)
                        subst hr
                        subst hs
                        exact v_ireturn o dX11_trusted_168
                      · replace h := z_ip c24 h
                        refine v_aload_n o dX11_trusted_160 rfl 1 rfl ?_
                        refine gt_11_35 o hK0 ln_5_130 dX11_trusted_161 ?_
                        refine v_goto o 168 dX11_trusted_164 (by decide) ?_
                        obtain ⟨hr, hs⟩ := Prod.mk.inj (z_some h)
                        subst hr
                        subst hs
                        exact v_ireturn o dX11_trusted_168
                · replace h := z_in c10 h
                  refine v_iload_n o dX11_trusted_94 rfl 2 rfl ?_
                  refine v_if_ne o 111 dX11_trusted_95 (by decide) (fun c25 => ?_) (fun c25 => ?_)
                  · replace h := z_in c25 h
                    refine v_sub [1, 3, 4] rfl ?_
                    exact tj_X11_trusted_111 o hX hK0 h
                  · replace h := z_ip c25 h
                    refine v_iload_n o dX11_trusted_98 rfl 4 rfl ?_
                    refine v_if_lt o 111 dX11_trusted_99 (by decide) (fun c34 => ?_) (fun c34 => ?_)
                    · replace h := z_ip c34 h
                      refine v_sub [1, 3, 4] rfl ?_
                      exact tj_X11_trusted_111 o hX hK0 h
                    · replace h := z_in c34 h
                      refine v_iload_n o dX11_trusted_102 rfl 4 rfl ?_
                      refine v_iconst o (4 : Int32) dX11_trusted_103 (by decide) ?_
                      refine v_icmp_ge o 111 dX11_trusted_104 (by decide) (fun c35 => ?_) (fun c35 => ?_)
                      · replace h := z_ip c35 h
                        refine v_sub [1, 3, 4] rfl ?_
                        exact tj_X11_trusted_111 o hX hK0 h
                      · replace h := z_in c35 h
                        refine v_iconst o (1 : Int32) dX11_trusted_107 (by decide) ?_
                        refine v_goto o 112 dX11_trusted_108 (by decide) ?_
                        refine v_sub [1, 3, 4] rfl ?_
                        exact tj_X11_trusted_112 o hX hK0 h
              · replace h := z_in c9 h
                refine v_iload_n o dX11_trusted_59 rfl 3 rfl ?_
                refine v_if_ne o 70 dX11_trusted_60 (by decide) (fun c36 => ?_) (fun c36 => ?_)
                · replace h := z_in c36 h
                  refine v_iload_n o dX11_trusted_70 rfl 3 rfl ?_
                  refine v_iconst o (1 : Int32) dX11_trusted_71 (by decide) ?_
                  refine v_icmp_ne o 83 dX11_trusted_72 (by decide) (fun c37 => ?_) (fun c37 => ?_)
                  · replace h := z_in c37 h
                    refine v_aload_n o dX11_trusted_83 rfl 1 rfl ?_
                    refine gt_11_30 o hK0 ln_5_125 dX11_trusted_84 ?_
                    obtain ⟨hr, hs⟩ := Prod.mk.inj (z_some h)
                    subst hr
                    subst hs
                    exact v_ireturn o dX11_trusted_87
                  · replace h := z_ip c37 h
                    refine v_aload_n o dX11_trusted_75 rfl 1 rfl ?_
                    refine gt_11_32 o hK0 ln_5_127 dX11_trusted_76 ?_
                    refine v_l2i o dX11_trusted_79 ?_
                    refine v_goto o 87 dX11_trusted_80 (by decide) ?_
                    obtain ⟨hr, hs⟩ := Prod.mk.inj (z_some h)
                    subst hr
                    subst hs
                    exact v_ireturn o dX11_trusted_87
                · replace h := z_ip c36 h
                  refine v_aload_n o dX11_trusted_63 rfl 1 rfl ?_
                  refine gt_11_31 o hK0 ln_5_126 dX11_trusted_64 ?_
                  refine v_goto o 87 dX11_trusted_67 (by decide) ?_
                  obtain ⟨hr, hs⟩ := Prod.mk.inj (z_some h)
                  subst hr
                  subst hs
                  exact v_ireturn o dX11_trusted_87
            · replace h := z_ip c8 h
              refine v_iload_n o dX11_trusted_43 rfl 3 rfl ?_
              refine v_if_ne o 52 dX11_trusted_44 (by decide) (fun c38 => ?_) (fun c38 => ?_)
              · replace h := z_in c38 h
                refine v_iconst o (-1 : Int32) dX11_trusted_52 (by decide) ?_
                obtain ⟨hr, hs⟩ := Prod.mk.inj (z_some h)
                subst hr
                subst hs
                exact v_ireturn o dX11_trusted_53
              · replace h := z_ip c38 h
                refine v_bipush o (-2 : Int32) dX11_trusted_47 (by decide) ?_
                refine v_goto o 53 dX11_trusted_49 (by decide) ?_
                obtain ⟨hr, hs⟩ := Prod.mk.inj (z_some h)
                subst hr
                subst hs
                exact v_ireturn o dX11_trusted_53
          · replace h := z_ip c7 h
            refine v_aload_n o dX11_trusted_33 rfl 1 rfl ?_
            refine gt_11_45 o hK0 ln_5_140 dX11_trusted_34 ?_
            obtain ⟨hr, hs⟩ := Prod.mk.inj (z_some h)
            subst hr
            subst hs
            exact v_ireturn o dX11_trusted_37
        · replace h := z_in c4 h
          refine v_iconst o (-1 : Int32) dX11_trusted_19 (by decide) ?_
          obtain ⟨hr, hs⟩ := Prod.mk.inj (z_some h)
          subst hr
          subst hs
          exact v_ireturn o dX11_trusted_20
theorem e_X11_trusted {q : z_Q} {l : Launch} {G : z_G} {D : z_D} {a0 : Nat} {a1 : Int32} {a2 : Int32} {a3 : Int32} {r : Int32} {D1 : z_D} (hK0 : z_K G a0 = 111) (h : f_X11_trusted G D a0 a1 a2 a3 = some (r, D1)) : z_E q l yX11_trusted cX11_trusted 6 (some .int) 7 0 0 [.ref (z_w q a0), .int a1, .int a2, .int a3] G D (some (.int r)) G D1 :=
  z_E.of (by decide) (Nat.le_of_ble_eq_true rfl) (fun X hX _ o => b_X11_trusted o hX hK0 h)
def p_X11_plan_6 (q : z_Q) (X : z_X) (Q : State → Prop) (G : z_G) (D : z_D) (a0 : Nat) (a1 : Int32) (a2 : Int32) (a3 : Int32) : (Int32 × Int32) → Prop := (fun v => z_V q X 6 Q 0 0 G D 6 [(0, .ref (z_w q a0)), (1, .int a1), (2, .int a2), (3, .int a3), (4, .int v.1), (5, .int v.2)] [])
def x_X11_plan_6 (q : z_Q) (X : z_X) (Q : State → Prop) (G : z_G) (D : z_D) (a0 : Nat) (a1 : Int32) (a2 : Int32) (a3 : Int32) : Int32 → Prop := (fun v => z_V q X 6 Q 0 0 G D 30 [(0, .ref (z_w q a0)), (1, .int a1), (2, .int a2), (3, .int a3), (4, .int v)] [])
def k_X11_plan_6 (q : z_Q) (X : z_X) (Q : State → Prop) (G : z_G) (D : z_D) (a0 : Nat) (a1 : Int32) (a2 : Int32) (a3 : Int32) : (Int32 × Int32) ⊕ Int32 → Prop := Sum.elim (p_X11_plan_6 q X Q G D a0 a1 a2 a3) (x_X11_plan_6 q X Q G D a0 a1 a2 a3)
def c_X11_plan_6 (G : z_G) (D : z_D) (a0 : Nat) (a1 : Int32) (a2 : Int32) (a3 : Int32) (a4 : Int32) (a5 : Int32) : Option ((Int32 × Int32) ⊕ Int32) :=
  (if (16 : Int32) ≤ a5 then (some (.inr a4)) else ((some (.inl ((a4 + ((a2 >>> (a5 &&& 31)) &&& (1 : Int32))), (a5 + (1 : Int32)))))))
set_option maxRecDepth 100000 in
set_option maxHeartbeats 4000000 in
theorem tc_X11_plan_6 {q : z_Q} {X : z_X} {G : z_G} {D : z_D} {Q : State → Prop} {a0 : Nat} {a1 : Int32} {a2 : Int32} {a3 : Int32} {a4 : Int32} {a5 : Int32} (o : z_O q X cX11_plan 6 "FlashTrustModel" "plan" (some .int)) (hX : x_R X = z_rm 0 0 0) (hK0 : z_K G a0 = 111) {ρ : (Int32 × Int32) ⊕ Int32} (h : c_X11_plan_6 G D a0 a1 a2 a3 a4 a5 = some ρ) (hk : k_X11_plan_6 q X Q G D a0 a1 a2 a3 ρ) : z_V q X 6 Q 0 0 G D 6 [(0, .ref (z_w q a0)), (1, .int a1), (2, .int a2), (3, .int a3), (4, .int a4), (5, .int a5)] [] := by
  unfold c_X11_plan_6 at h
  refine v_iload o dX11_plan_6 5 rfl ?_
  refine v_bipush o (16 : Int32) dX11_plan_8 (by decide) ?_
  refine v_icmp_ge o 30 dX11_plan_10 (by decide) (fun c1 => ?_) (fun c1 => ?_)
  · replace h := z_ip c1 h
    obtain rfl := z_some h
    refine v_sub [0, 1, 2, 3, 4] rfl ?_
    exact hk
  · replace h := z_in c1 h
    refine v_iload o dX11_plan_13 4 rfl ?_
    refine v_iload_n o dX11_plan_15 rfl 2 rfl ?_
    refine v_iload o dX11_plan_16 5 rfl ?_
    refine v_ishr o dX11_plan_18 ?_
    refine v_iconst o (1 : Int32) dX11_plan_19 (by decide) ?_
    refine v_iand o dX11_plan_20 ?_
    refine v_iadd o dX11_plan_21 ?_
    refine v_istore o [(4, .int (a4 + ((a2 >>> (a5 &&& 31)) &&& (1 : Int32)))), (0, .ref (z_w q a0)), (1, .int a1), (2, .int a2), (3, .int a3), (5, .int a5)] dX11_plan_22 (by decide) rfl ?_
    refine v_iinc o (a5 + (1 : Int32)) [(5, .int (a5 + (1 : Int32))), (4, .int (a4 + ((a2 >>> (a5 &&& 31)) &&& (1 : Int32)))), (0, .ref (z_w q a0)), (1, .int a1), (2, .int a2), (3, .int a3)] dX11_plan_24 5 rfl rfl (by decide) rfl ?_
    refine v_goto o 6 dX11_plan_27 (by decide) ?_
    obtain rfl := z_some h
    refine v_sub [2, 3, 4, 5, 1, 0] rfl ?_
    exact hk
def f_X11_plan (G : z_G) (D : z_D) (a0 : Nat) (a1 : Int32) (a2 : Int32) (a3 : Int32) : Option (Int32 × z_D) :=
  ((z_loop (fun v => c_X11_plan_6 G D a0 a1 a2 a3 v.1 v.2) 4000 ((0 : Int32), (0 : Int32))).bind (fun e2 => (if a1 < (0 : Int32) then ((some ((-1 : Int32), D))) else ((if (3 : Int32) < a1 then ((some ((-1 : Int32), D))) else ((if a2 < (0 : Int32) then ((some ((-1 : Int32), D))) else ((if (65535 : Int32) < a2 then ((some ((-1 : Int32), D))) else ((if e2 < (1 : Int32) then ((some ((-1 : Int32), D))) else ((if (5 : Int32) < e2 then ((some ((-1 : Int32), D))) else ((if a3 < (1 : Int32) then ((some ((-1 : Int32), D))) else ((if a3 ≤ e2 then (z_gK G 1 (z_R G 1163 a0) (z_gA G 1 (z_R G 1163 a0) a1 (z_gK G 1 (z_R G 1164 a0) (z_gA G 1 (z_R G 1164 a0) a1 ((some ((1 : Int32), (z_sU (z_sU D (z_R G 1163 a0) (a1).toNatClampNeg a2) (z_R G 1164 a0) (a1).toNatClampNeg a3)))))))) else ((some ((-1 : Int32), D))))))))))))))))))))
set_option maxRecDepth 100000 in
set_option maxHeartbeats 4000000 in
theorem b_X11_plan {q : z_Q} {X : z_X} {G : z_G} {D : z_D} {a0 : Nat} {a1 : Int32} {a2 : Int32} {a3 : Int32} {r : Int32} {D1 : z_D} (o : z_O q X cX11_plan 6 "FlashTrustModel" "plan" (some .int)) (hX : x_R X = z_rm 0 0 0) (hK0 : z_K G a0 = 111) (h : f_X11_plan G D a0 a1 a2 a3 = some (r, D1)) : z_V q X 6 (z_F q X (some (.int r)) G D1 0 0) 0 0 G D 0 [(0, .ref (z_w q a0)), (1, .int a1), (2, .int a2), (3, .int a3)] [] := by
  unfold f_X11_plan at h
  refine v_iconst o (0 : Int32) dX11_plan_0 (by decide) ?_
  refine v_istore o [(4, .int (0 : Int32)), (0, .ref (z_w q a0)), (1, .int a1), (2, .int a2), (3, .int a3)] dX11_plan_1 (by decide) rfl ?_
  refine v_iconst o (0 : Int32) dX11_plan_3 (by decide) ?_
  refine v_istore o [(5, .int (0 : Int32)), (4, .int (0 : Int32)), (0, .ref (z_w q a0)), (1, .int a1), (2, .int a2), (3, .int a3)] dX11_plan_4 (by decide) rfl ?_
  refine v_sub [2, 3, 4, 5, 1, 0] rfl ?_
  obtain ⟨e2, he3, h⟩ := z_bind h
  refine z_loopV (P := p_X11_plan_6 q X _ G D a0 a1 a2 a3) (E := x_X11_plan_6 q X _ G D a0 a1 a2 a3) (fun v ρ hb hk => tc_X11_plan_6 (D := D) (a0 := a0) (a1 := a1) (a2 := a2) (a3 := a3) (a4 := v.1) (a5 := v.2) o hX hK0 hb hk) 4000 _ e2 he3 ?_
  show z_V q X 6 _ _ _ G D 30 [(0, .ref (z_w q a0)), (1, .int a1), (2, .int a2), (3, .int a3), (4, .int e2)] []
  refine v_iload_n o dX11_plan_30 rfl 1 rfl ?_
  refine v_if_lt o 73 dX11_plan_31 (by decide) (fun c4 => ?_) (fun c4 => ?_)
  · replace h := z_ip c4 h
    refine v_iconst o (-1 : Int32) dX11_plan_73 (by decide) ?_
    obtain ⟨hr, hs⟩ := Prod.mk.inj (z_some h)
    subst hr
    subst hs
    exact v_ireturn o dX11_plan_74
  · replace h := z_in c4 h
    refine v_iload_n o dX11_plan_34 rfl 1 rfl ?_
    refine v_iconst o (3 : Int32) dX11_plan_35 (by decide) ?_
    refine v_icmp_gt o 73 dX11_plan_36 (by decide) (fun c5 => ?_) (fun c5 => ?_)
    · replace h := z_ip c5 h
      refine v_iconst o (-1 : Int32) dX11_plan_73 (by decide) ?_
      obtain ⟨hr, hs⟩ := Prod.mk.inj (z_some h)
      subst hr
      subst hs
      exact v_ireturn o dX11_plan_74
    · replace h := z_in c5 h
      refine v_iload_n o dX11_plan_39 rfl 2 rfl ?_
      refine v_if_lt o 73 dX11_plan_40 (by decide) (fun c6 => ?_) (fun c6 => ?_)
      · replace h := z_ip c6 h
        refine v_iconst o (-1 : Int32) dX11_plan_73 (by decide) ?_
        obtain ⟨hr, hs⟩ := Prod.mk.inj (z_some h)
        subst hr
        subst hs
        exact v_ireturn o dX11_plan_74
      · replace h := z_in c6 h
        refine v_iload_n o dX11_plan_43 rfl 2 rfl ?_
        refine v_ldcw o ln_7_51 dX11_plan_44 ?_
        refine v_icmp_gt o 73 dX11_plan_47 (by decide) (fun c7 => ?_) (fun c7 => ?_)
        · replace h := z_ip c7 h
          refine v_iconst o (-1 : Int32) dX11_plan_73 (by decide) ?_
          obtain ⟨hr, hs⟩ := Prod.mk.inj (z_some h)
          subst hr
          subst hs
          exact v_ireturn o dX11_plan_74
        · replace h := z_in c7 h
          refine v_iload o dX11_plan_50 4 rfl ?_
          refine v_iconst o (1 : Int32) dX11_plan_52 (by decide) ?_
          refine v_icmp_lt o 73 dX11_plan_53 (by decide) (fun c8 => ?_) (fun c8 => ?_)
          · replace h := z_ip c8 h
            refine v_iconst o (-1 : Int32) dX11_plan_73 (by decide) ?_
            obtain ⟨hr, hs⟩ := Prod.mk.inj (z_some h)
            subst hr
            subst hs
            exact v_ireturn o dX11_plan_74
          · replace h := z_in c8 h
            refine v_iload o dX11_plan_56 4 rfl ?_
            refine v_iconst o (5 : Int32) dX11_plan_58 (by decide) ?_
            refine v_icmp_gt o 73 dX11_plan_59 (by decide) (fun c9 => ?_) (fun c9 => ?_)
            · replace h := z_ip c9 h
              refine v_iconst o (-1 : Int32) dX11_plan_73 (by decide) ?_
              obtain ⟨hr, hs⟩ := Prod.mk.inj (z_some h)
              subst hr
              subst hs
              exact v_ireturn o dX11_plan_74
            · replace h := z_in c9 h
              refine v_iload_n o dX11_plan_62 rfl 3 rfl ?_
              refine v_iconst o (1 : Int32) dX11_plan_63 (by decide) ?_
              refine v_icmp_lt o 73 dX11_plan_64 (by decide) (fun c10 => ?_) (fun c10 => ?_)
              · replace h := z_ip c10 h
                refine v_iconst o (-1 : Int32) dX11_plan_73 (by decide) ?_
                obtain ⟨hr, hs⟩ := Prod.mk.inj (z_some h)
                subst hr
                subst hs
                exact v_ireturn o dX11_plan_74
              · replace h := z_in c10 h
                refine v_iload_n o dX11_plan_67 rfl 3 rfl ?_
                refine v_iload o dX11_plan_68 4 rfl ?_
                refine v_icmp_le o 75 dX11_plan_70 (by decide) (fun c11 => ?_) (fun c11 => ?_)
                · replace h := z_ip c11 h
                  refine v_aload_n o dX11_plan_75 rfl 0 rfl ?_
                  obtain ⟨n12, h⟩ := z_gK_of h
                  refine gt_11_63 o hK0 ln_5_158 (by rw [n12]; decide) dX11_plan_76 ?_
                  refine v_iload_n o dX11_plan_79 rfl 1 rfl ?_
                  refine v_iload_n o dX11_plan_80 rfl 2 rfl ?_
                  obtain ⟨n13, n14, h⟩ := z_gA_of h
                  refine v_iast o n13 n14 dX11_plan_81 ?_
                  refine v_aload_n o dX11_plan_82 rfl 0 rfl ?_
                  obtain ⟨n15, h⟩ := z_gK_of h
                  refine gt_11_64 o hK0 ln_5_159 (by rw [n15]; decide) dX11_plan_83 ?_
                  refine v_iload_n o dX11_plan_86 rfl 1 rfl ?_
                  refine v_iload_n o dX11_plan_87 rfl 3 rfl ?_
                  obtain ⟨n16, n17, h⟩ := z_gA_of h
                  refine v_iast o n16 n17 dX11_plan_88 ?_
                  refine v_iconst o (1 : Int32) dX11_plan_89 (by decide) ?_
                  obtain ⟨hr, hs⟩ := Prod.mk.inj (z_some h)
                  subst hr
                  subst hs
                  exact v_ireturn o dX11_plan_90
                · replace h := z_in c11 h
                  refine v_iconst o (-1 : Int32) dX11_plan_73 (by decide) ?_
                  obtain ⟨hr, hs⟩ := Prod.mk.inj (z_some h)
                  subst hr
                  subst hs
                  exact v_ireturn o dX11_plan_74
theorem e_X11_plan {q : z_Q} {l : Launch} {G : z_G} {D : z_D} {a0 : Nat} {a1 : Int32} {a2 : Int32} {a3 : Int32} {r : Int32} {D1 : z_D} (hK0 : z_K G a0 = 111) (h : f_X11_plan G D a0 a1 a2 a3 = some (r, D1)) : z_E q l yX11_plan cX11_plan 6 (some .int) 0 0 0 [.ref (z_w q a0), .int a1, .int a2, .int a3] G D (some (.int r)) G D1 :=
  z_E.of (by decide) (Nat.le_of_ble_eq_true rfl) (fun X hX _ o => b_X11_plan o hX hK0 h)
def j_X11_image_22 (G : z_G) (D : z_D) (a0 : Nat) (a1 : Int32) (a2 : Int32) (a3 : Int32) (s0 : Int32) : Option (Int32 × z_D) :=
  (if a1 < (1 : Int32) then ((some ((-1 : Int32), D))) else ((if (65535 : Int32) < a1 then ((some ((-1 : Int32), D))) else ((if a2 < (1 : Int32) then ((some ((-1 : Int32), D))) else ((if (1024 : Int32) < a2 then ((some ((-1 : Int32), D))) else ((if s0 < a1 then ((if (z_I D 1165 a0) = (4 : Int32) then ((some ((-5 : Int32), D))) else (z_gK G 1 (z_R G 1166 a0) (z_gA G 1 (z_R G 1166 a0) (z_I D 1165 a0) (z_gK G 1 (z_R G 1167 a0) (z_gA G 1 (z_R G 1167 a0) (z_I (z_sU D (z_R G 1166 a0) ((z_I D 1165 a0)).toNatClampNeg a1) 1165 a0) (z_gK G 1 (z_R G 1168 a0) (z_gA G 1 (z_R G 1168 a0) (z_I (z_sU (z_sU D (z_R G 1166 a0) ((z_I D 1165 a0)).toNatClampNeg a1) (z_R G 1167 a0) ((z_I (z_sU D (z_R G 1166 a0) ((z_I D 1165 a0)).toNatClampNeg a1) 1165 a0)).toNatClampNeg a2) 1165 a0) ((some ((z_I (z_sI (z_sU (z_sU (z_sU D (z_R G 1166 a0) ((z_I D 1165 a0)).toNatClampNeg a1) (z_R G 1167 a0) ((z_I (z_sU D (z_R G 1166 a0) ((z_I D 1165 a0)).toNatClampNeg a1) 1165 a0)).toNatClampNeg a2) (z_R G 1168 a0) ((z_I (z_sU (z_sU D (z_R G 1166 a0) ((z_I D 1165 a0)).toNatClampNeg a1) (z_R G 1167 a0) ((z_I (z_sU D (z_R G 1166 a0) ((z_I D 1165 a0)).toNatClampNeg a1) 1165 a0)).toNatClampNeg a2) 1165 a0)).toNatClampNeg a3) 1165 a0 ((z_I (z_sU (z_sU (z_sU D (z_R G 1166 a0) ((z_I D 1165 a0)).toNatClampNeg a1) (z_R G 1167 a0) ((z_I (z_sU D (z_R G 1166 a0) ((z_I D 1165 a0)).toNatClampNeg a1) 1165 a0)).toNatClampNeg a2) (z_R G 1168 a0) ((z_I (z_sU (z_sU D (z_R G 1166 a0) ((z_I D 1165 a0)).toNatClampNeg a1) (z_R G 1167 a0) ((z_I (z_sU D (z_R G 1166 a0) ((z_I D 1165 a0)).toNatClampNeg a1) 1165 a0)).toNatClampNeg a2) 1165 a0)).toNatClampNeg a3) 1165 a0) + (1 : Int32))) 1165 a0), (z_sI (z_sU (z_sU (z_sU D (z_R G 1166 a0) ((z_I D 1165 a0)).toNatClampNeg a1) (z_R G 1167 a0) ((z_I (z_sU D (z_R G 1166 a0) ((z_I D 1165 a0)).toNatClampNeg a1) 1165 a0)).toNatClampNeg a2) (z_R G 1168 a0) ((z_I (z_sU (z_sU D (z_R G 1166 a0) ((z_I D 1165 a0)).toNatClampNeg a1) (z_R G 1167 a0) ((z_I (z_sU D (z_R G 1166 a0) ((z_I D 1165 a0)).toNatClampNeg a1) 1165 a0)).toNatClampNeg a2) 1165 a0)).toNatClampNeg a3) 1165 a0 ((z_I (z_sU (z_sU (z_sU D (z_R G 1166 a0) ((z_I D 1165 a0)).toNatClampNeg a1) (z_R G 1167 a0) ((z_I (z_sU D (z_R G 1166 a0) ((z_I D 1165 a0)).toNatClampNeg a1) 1165 a0)).toNatClampNeg a2) (z_R G 1168 a0) ((z_I (z_sU (z_sU D (z_R G 1166 a0) ((z_I D 1165 a0)).toNatClampNeg a1) (z_R G 1167 a0) ((z_I (z_sU D (z_R G 1166 a0) ((z_I D 1165 a0)).toNatClampNeg a1) 1165 a0)).toNatClampNeg a2) 1165 a0)).toNatClampNeg a3) 1165 a0) + (1 : Int32)))))))))))))) else ((some ((-1 : Int32), D))))))))))))
set_option maxRecDepth 100000 in
set_option maxHeartbeats 4000000 in
theorem tj_X11_image_22 {q : z_Q} {X : z_X} {G : z_G} {D : z_D} {a0 : Nat} {a1 : Int32} {a2 : Int32} {a3 : Int32} {s0 : Int32} {r : Int32} {D1 : z_D} (o : z_O q X cX11_image 5 "FlashTrustModel" "image" (some .int)) (hX : x_R X = z_rm 0 0 0) (hK0 : z_K G a0 = 111) (h : j_X11_image_22 G D a0 a1 a2 a3 s0 = some (r, D1)) : z_V q X 5 (z_F q X (some (.int r)) G D1 0 0) 0 0 G D 22 [(0, .ref (z_w q a0)), (1, .int a1), (2, .int a2), (3, .int a3)] [.int s0] := by
  unfold j_X11_image_22 at h
  refine v_istore o [(4, .int s0), (0, .ref (z_w q a0)), (1, .int a1), (2, .int a2), (3, .int a3)] dX11_image_22 (by decide) rfl ?_
  refine v_iload_n o dX11_image_24 rfl 2 rfl ?_
  refine v_iconst o (1 : Int32) dX11_image_25 (by decide) ?_
  refine v_icmp_lt o 54 dX11_image_26 (by decide) (fun c5 => ?_) (fun c5 => ?_)
  · replace h := z_ip c5 h
    refine v_iconst o (-1 : Int32) dX11_image_54 (by decide) ?_
    obtain ⟨hr, hs⟩ := Prod.mk.inj (z_some h)
    subst hr
    subst hs
    exact v_ireturn o dX11_image_55
  · replace h := z_in c5 h
    refine v_iload_n o dX11_image_29 rfl 2 rfl ?_
    refine v_ldcw o ln_7_51 dX11_image_30 ?_
    refine v_icmp_gt o 54 dX11_image_33 (by decide) (fun c6 => ?_) (fun c6 => ?_)
    · replace h := z_ip c6 h
      refine v_iconst o (-1 : Int32) dX11_image_54 (by decide) ?_
      obtain ⟨hr, hs⟩ := Prod.mk.inj (z_some h)
      subst hr
      subst hs
      exact v_ireturn o dX11_image_55
    · replace h := z_in c6 h
      refine v_iload_n o dX11_image_36 rfl 3 rfl ?_
      refine v_iconst o (1 : Int32) dX11_image_37 (by decide) ?_
      refine v_icmp_lt o 54 dX11_image_38 (by decide) (fun c7 => ?_) (fun c7 => ?_)
      · replace h := z_ip c7 h
        refine v_iconst o (-1 : Int32) dX11_image_54 (by decide) ?_
        obtain ⟨hr, hs⟩ := Prod.mk.inj (z_some h)
        subst hr
        subst hs
        exact v_ireturn o dX11_image_55
      · replace h := z_in c7 h
        refine v_iload_n o dX11_image_41 rfl 3 rfl ?_
        refine v_sipush o (1024 : Int32) dX11_image_42 (by decide) ?_
        refine v_icmp_gt o 54 dX11_image_45 (by decide) (fun c8 => ?_) (fun c8 => ?_)
        · replace h := z_ip c8 h
          refine v_iconst o (-1 : Int32) dX11_image_54 (by decide) ?_
          obtain ⟨hr, hs⟩ := Prod.mk.inj (z_some h)
          subst hr
          subst hs
          exact v_ireturn o dX11_image_55
        · replace h := z_in c8 h
          refine v_iload_n o dX11_image_48 rfl 2 rfl ?_
          refine v_iload o dX11_image_49 0 rfl ?_
          refine v_icmp_gt o 56 dX11_image_51 (by decide) (fun c9 => ?_) (fun c9 => ?_)
          · replace h := z_ip c9 h
            refine v_aload_n o dX11_image_56 rfl 1 rfl ?_
            refine gt_11_65 o hK0 ln_5_160 dX11_image_57 ?_
            refine v_iconst o (4 : Int32) dX11_image_60 (by decide) ?_
            refine v_icmp_ne o 67 dX11_image_61 (by decide) (fun c10 => ?_) (fun c10 => ?_)
            · replace h := z_in c10 h
              refine v_aload_n o dX11_image_67 rfl 1 rfl ?_
              obtain ⟨n11, h⟩ := z_gK_of h
              refine gt_11_66 o hK0 ln_5_161 (by rw [n11]; decide) dX11_image_68 ?_
              refine v_aload_n o dX11_image_71 rfl 1 rfl ?_
              refine gt_11_65 o hK0 ln_5_160 dX11_image_72 ?_
              refine v_iload_n o dX11_image_75 rfl 2 rfl ?_
              obtain ⟨n12, n13, h⟩ := z_gA_of h
              refine v_iast o n12 n13 dX11_image_76 ?_
              refine v_aload_n o dX11_image_77 rfl 1 rfl ?_
              obtain ⟨n14, h⟩ := z_gK_of h
              refine gt_11_67 o hK0 ln_5_162 (by rw [n14]; decide) dX11_image_78 ?_
              refine v_aload_n o dX11_image_81 rfl 1 rfl ?_
              refine gt_11_65 o hK0 ln_5_160 dX11_image_82 ?_
              refine v_iload_n o dX11_image_85 rfl 3 rfl ?_
              obtain ⟨n15, n16, h⟩ := z_gA_of h
              refine v_iast o n15 n16 dX11_image_86 ?_
              refine v_aload_n o dX11_image_87 rfl 1 rfl ?_
              obtain ⟨n17, h⟩ := z_gK_of h
              refine gt_11_68 o hK0 ln_5_163 (by rw [n17]; decide) dX11_image_88 ?_
              refine v_aload_n o dX11_image_91 rfl 1 rfl ?_
              refine gt_11_65 o hK0 ln_5_160 dX11_image_92 ?_
              refine v_iload_n o dX11_image_95 rfl 4 rfl ?_
              obtain ⟨n18, n19, h⟩ := z_gA_of h
              refine v_iast o n18 n19 dX11_image_96 ?_
              refine v_aload_n o dX11_image_97 rfl 1 rfl ?_
              refine v_dup o dX11_image_98 rfl ?_
              refine gt_11_65 o hK0 ln_5_160 dX11_image_99 ?_
              refine v_iconst o (1 : Int32) dX11_image_102 (by decide) ?_
              refine v_iadd o dX11_image_103 ?_
              refine pt_11_65 o hK0 ln_5_160 dX11_image_104 ?_
              refine v_aload_n o dX11_image_107 rfl 1 rfl ?_
              refine gt_11_65 o hK0 ln_5_160 dX11_image_108 ?_
              obtain ⟨hr, hs⟩ := Prod.mk.inj (z_some h)
              subst hr
              subst hs
              exact v_ireturn o dX11_image_111
            · replace h := z_ip c10 h
              refine v_bipush o (-5 : Int32) dX11_image_64 (by decide) ?_
              obtain ⟨hr, hs⟩ := Prod.mk.inj (z_some h)
              subst hr
              subst hs
              exact v_ireturn o dX11_image_66
          · replace h := z_in c9 h
            refine v_iconst o (-1 : Int32) dX11_image_54 (by decide) ?_
            obtain ⟨hr, hs⟩ := Prod.mk.inj (z_some h)
            subst hr
            subst hs
            exact v_ireturn o dX11_image_55
def f_X11_image (G : z_G) (D : z_D) (a0 : Nat) (a1 : Int32) (a2 : Int32) (a3 : Int32) : Option (Int32 × z_D) :=
  (if (z_I D 1165 a0) = (0 : Int32) then ((j_X11_image_22 G D  a0 a1 a2 a3 (0 : Int32))) else (z_gK G 1 (z_R G 1166 a0) (z_gA G 1 (z_R G 1166 a0) ((z_I D 1165 a0) - (1 : Int32)) ((j_X11_image_22 G D  a0 a1 a2 a3 (z_U D (z_R G 1166 a0) (((z_I D 1165 a0) - (1 : Int32))).toNatClampNeg))))))
set_option maxRecDepth 100000 in
set_option maxHeartbeats 4000000 in
theorem b_X11_image {q : z_Q} {X : z_X} {G : z_G} {D : z_D} {a0 : Nat} {a1 : Int32} {a2 : Int32} {a3 : Int32} {r : Int32} {D1 : z_D} (o : z_O q X cX11_image 5 "FlashTrustModel" "image" (some .int)) (hX : x_R X = z_rm 0 0 0) (hK0 : z_K G a0 = 111) (h : f_X11_image G D a0 a1 a2 a3 = some (r, D1)) : z_V q X 5 (z_F q X (some (.int r)) G D1 0 0) 0 0 G D 0 [(0, .ref (z_w q a0)), (1, .int a1), (2, .int a2), (3, .int a3)] [] := by
  unfold f_X11_image at h
  refine v_aload_n o dX11_image_0 rfl 0 rfl ?_
  refine gt_11_65 o hK0 ln_5_160 dX11_image_1 ?_
  refine v_if_ne o 11 dX11_image_4 (by decide) (fun c1 => ?_) (fun c1 => ?_)
  · replace h := z_in c1 h
    refine v_aload_n o dX11_image_11 rfl 0 rfl ?_
    obtain ⟨n2, h⟩ := z_gK_of h
    refine gt_11_66 o hK0 ln_5_161 (by rw [n2]; decide) dX11_image_12 ?_
    refine v_aload_n o dX11_image_15 rfl 0 rfl ?_
    refine gt_11_65 o hK0 ln_5_160 dX11_image_16 ?_
    refine v_iconst o (1 : Int32) dX11_image_19 (by decide) ?_
    refine v_isub o dX11_image_20 ?_
    obtain ⟨n3, n4, h⟩ := z_gA_of h
    refine v_iald o n3 n4 dX11_image_21 ?_
    exact tj_X11_image_22 o hX hK0 h
  · replace h := z_ip c1 h
    refine v_iconst o (0 : Int32) dX11_image_7 (by decide) ?_
    refine v_goto o 22 dX11_image_8 (by decide) ?_
    exact tj_X11_image_22 o hX hK0 h
theorem e_X11_image {q : z_Q} {l : Launch} {G : z_G} {D : z_D} {a0 : Nat} {a1 : Int32} {a2 : Int32} {a3 : Int32} {r : Int32} {D1 : z_D} (hK0 : z_K G a0 = 111) (h : f_X11_image G D a0 a1 a2 a3 = some (r, D1)) : z_E q l yX11_image cX11_image 5 (some .int) 0 0 0 [.ref (z_w q a0), .int a1, .int a2, .int a3] G D (some (.int r)) G D1 :=
  z_E.of (by decide) (Nat.le_of_ble_eq_true rfl) (fun X hX _ o => b_X11_image o hX hK0 h)
def f_X11_clear (G : z_G) (D : z_D) (a0 : Nat) : Option (Int32 × z_D) :=
  (some ((z_I D 1165 a0), (z_sI D 1165 a0 (0 : Int32))))
set_option maxRecDepth 100000 in
set_option maxHeartbeats 4000000 in
theorem b_X11_clear {q : z_Q} {X : z_X} {G : z_G} {D : z_D} {a0 : Nat} {r : Int32} {D1 : z_D} (o : z_O q X cX11_clear 2 "FlashTrustModel" "clear" (some .int)) (hX : x_R X = z_rm 0 0 0) (hK0 : z_K G a0 = 111) (h : f_X11_clear G D a0 = some (r, D1)) : z_V q X 2 (z_F q X (some (.int r)) G D1 0 0) 0 0 G D 0 [(0, .ref (z_w q a0))] [] := by
  unfold f_X11_clear at h
  refine v_aload_n o dX11_clear_0 rfl 0 rfl ?_
  refine gt_11_65 o hK0 ln_5_160 dX11_clear_1 ?_
  refine v_istore_n o [(1, .int (z_I D 1165 a0)), (0, .ref (z_w q a0))] dX11_clear_4 rfl (by decide) rfl ?_
  refine v_aload_n o dX11_clear_5 rfl 1 rfl ?_
  refine v_iconst o (0 : Int32) dX11_clear_6 (by decide) ?_
  refine pt_11_65 o hK0 ln_5_160 dX11_clear_7 ?_
  refine v_iload_n o dX11_clear_10 rfl 0 rfl ?_
  obtain ⟨hr, hs⟩ := Prod.mk.inj (z_some h)
  subst hr
  subst hs
  exact v_ireturn o dX11_clear_11
theorem e_X11_clear {q : z_Q} {l : Launch} {G : z_G} {D : z_D} {a0 : Nat} {r : Int32} {D1 : z_D} (hK0 : z_K G a0 = 111) (h : f_X11_clear G D a0 = some (r, D1)) : z_E q l yX11_clear cX11_clear 2 (some .int) 0 0 0 [.ref (z_w q a0)] G D (some (.int r)) G D1 :=
  z_E.of (by decide) (Nat.le_of_ble_eq_true rfl) (fun X hX _ o => b_X11_clear o hX hK0 h)
def f_X11_imageByte (G : z_G) (D : z_D) (a0 : Nat) (a1 : Int32) (a2 : Int32) : Option (Int32) :=
  z_gK G 1 (z_R G 1168 a0) (z_gA G 1 (z_R G 1168 a0) a1 (z_gA G 1 (z_R G 1168 a0) a1 ((some ((((z_U D (z_R G 1168 a0) (a1).toNatClampNeg) + ((7 : Int32) * a2)) + ((a2 >>> ((6 : Int32) &&& 31)) * (z_U D (z_R G 1168 a0) (a1).toNatClampNeg))) &&& (255 : Int32))))))
set_option maxRecDepth 100000 in
set_option maxHeartbeats 4000000 in
theorem b_X11_imageByte {q : z_Q} {X : z_X} {G : z_G} {D : z_D} {a0 : Nat} {a1 : Int32} {a2 : Int32} {r : Int32} (o : z_O q X cX11_imageByte 3 "FlashTrustModel" "imageByte" (some .int)) (hX : x_R X = z_rm 0 0 0) (hK0 : z_K G a0 = 111) (h : f_X11_imageByte G D a0 a1 a2 = some r) : z_V q X 3 (z_F q X (some (.int r)) G D 0 0) 0 0 G D 0 [(0, .ref (z_w q a0)), (1, .int a1), (2, .int a2)] [] := by
  unfold f_X11_imageByte at h
  refine v_aload_n o dX11_imageByte_0 rfl 0 rfl ?_
  obtain ⟨n1, h⟩ := z_gK_of h
  refine gt_11_68 o hK0 ln_5_163 (by rw [n1]; decide) dX11_imageByte_1 ?_
  refine v_iload_n o dX11_imageByte_4 rfl 1 rfl ?_
  obtain ⟨n2, n3, h⟩ := z_gA_of h
  refine v_iald o n2 n3 dX11_imageByte_5 ?_
  refine v_bipush o (7 : Int32) dX11_imageByte_6 (by decide) ?_
  refine v_iload_n o dX11_imageByte_8 rfl 2 rfl ?_
  refine v_imul o dX11_imageByte_9 ?_
  refine v_iadd o dX11_imageByte_10 ?_
  refine v_iload_n o dX11_imageByte_11 rfl 2 rfl ?_
  refine v_bipush o (6 : Int32) dX11_imageByte_12 (by decide) ?_
  refine v_ishr o dX11_imageByte_14 ?_
  refine v_aload_n o dX11_imageByte_15 rfl 0 rfl ?_
  refine gt_11_68 o hK0 ln_5_163 (by rw [n1]; decide) dX11_imageByte_16 ?_
  refine v_iload_n o dX11_imageByte_19 rfl 1 rfl ?_
  obtain ⟨n4, n5, h⟩ := z_gA_of h
  refine v_iald o n4 n5 dX11_imageByte_20 ?_
  refine v_imul o dX11_imageByte_21 ?_
  refine v_iadd o dX11_imageByte_22 ?_
  refine v_sipush o (255 : Int32) dX11_imageByte_23 (by decide) ?_
  refine v_iand o dX11_imageByte_26 ?_
  have hr := z_some h
  subst hr
  exact v_ireturn o dX11_imageByte_27
theorem e_X11_imageByte {q : z_Q} {l : Launch} {G : z_G} {D : z_D} {a0 : Nat} {a1 : Int32} {a2 : Int32} {r : Int32} (hK0 : z_K G a0 = 111) (h : f_X11_imageByte G D a0 a1 a2 = some r) : z_E q l yX11_imageByte cX11_imageByte 3 (some .int) 0 0 0 [.ref (z_w q a0), .int a1, .int a2] G D (some (.int r)) G D :=
  z_E.of (by decide) (Nat.le_of_ble_eq_true rfl) (fun X hX _ o => b_X11_imageByte o hX hK0 h)
def p_X11_draftPut_5 (q : z_Q) (X : z_X) (Q : State → Prop) (G : z_G) (a0 : Nat) (a1 : Int64) : (z_D × Int32) → Prop := (fun v => z_V q X 5 Q 0 0 G v.1 5 [(0, .ref (z_w q a0)), (1, .long a1), (4, .int v.2)] [])
def x_X11_draftPut_5 (q : z_Q) (X : z_X) (Q : State → Prop) (G : z_G) (a0 : Nat) (a1 : Int64) : z_D → Prop := (fun v => z_V q X 5 Q 0 0 G v 47 [] [])
def k_X11_draftPut_5 (q : z_Q) (X : z_X) (Q : State → Prop) (G : z_G) (a0 : Nat) (a1 : Int64) : (z_D × Int32) ⊕ z_D → Prop := Sum.elim (p_X11_draftPut_5 q X Q G a0 a1) (x_X11_draftPut_5 q X Q G a0 a1)
def c_X11_draftPut_5 (G : z_G) (D : z_D) (a0 : Nat) (a1 : Int64) (a4 : Int32) : Option ((z_D × Int32) ⊕ z_D) :=
  (if a4 < (0 : Int32) then (some (.inr D)) else (z_gK G 1 (z_R G 1169 a0) (z_gA G 1 (z_R G 1169 a0) (z_I D 1171 a0) ((some (.inl ((z_sI (z_sU D (z_R G 1169 a0) ((z_I D 1171 a0)).toNatClampNeg (((a1 >>> ((((8 : Int32) * a4)).toInt64 &&& 63))).toInt32 &&& (255 : Int32))) 1171 a0 ((z_I (z_sU D (z_R G 1169 a0) ((z_I D 1171 a0)).toNatClampNeg (((a1 >>> ((((8 : Int32) * a4)).toInt64 &&& 63))).toInt32 &&& (255 : Int32))) 1171 a0) + (1 : Int32))), (a4 + (-1 : Int32)))))))))
set_option maxRecDepth 100000 in
set_option maxHeartbeats 4000000 in
theorem tc_X11_draftPut_5 {q : z_Q} {X : z_X} {G : z_G} {D : z_D} {Q : State → Prop} {a0 : Nat} {a1 : Int64} {a4 : Int32} (o : z_O q X cX11_draftPut 5 "FlashTrustModel" "draftPut" none) (hX : x_R X = z_rm 0 0 0) (hK0 : z_K G a0 = 111) {ρ : (z_D × Int32) ⊕ z_D} (h : c_X11_draftPut_5 G D a0 a1 a4 = some ρ) (hk : k_X11_draftPut_5 q X Q G a0 a1 ρ) : z_V q X 5 Q 0 0 G D 5 [(0, .ref (z_w q a0)), (1, .long a1), (4, .int a4)] [] := by
  unfold c_X11_draftPut_5 at h
  refine v_iload o dX11_draftPut_5 2 rfl ?_
  refine v_if_lt o 47 dX11_draftPut_7 (by decide) (fun c1 => ?_) (fun c1 => ?_)
  · replace h := z_ip c1 h
    obtain rfl := z_some h
    refine v_sub [] rfl ?_
    exact hk
  · replace h := z_in c1 h
    refine v_aload_n o dX11_draftPut_10 rfl 0 rfl ?_
    obtain ⟨n2, h⟩ := z_gK_of h
    refine gt_11_69 o hK0 ln_5_164 (by rw [n2]; decide) dX11_draftPut_11 ?_
    refine v_aload_n o dX11_draftPut_14 rfl 0 rfl ?_
    refine gt_11_71 o hK0 ln_5_166 dX11_draftPut_15 ?_
    refine v_lload_n o dX11_draftPut_18 rfl 1 rfl ?_
    refine v_bipush o (8 : Int32) dX11_draftPut_19 (by decide) ?_
    refine v_iload o dX11_draftPut_21 2 rfl ?_
    refine v_imul o dX11_draftPut_23 ?_
    refine v_lshr o dX11_draftPut_24 ?_
    refine v_l2i o dX11_draftPut_25 ?_
    refine v_sipush o (255 : Int32) dX11_draftPut_26 (by decide) ?_
    refine v_iand o dX11_draftPut_29 ?_
    obtain ⟨n3, n4, h⟩ := z_gA_of h
    refine v_iast o n3 n4 dX11_draftPut_30 ?_
    refine v_aload_n o dX11_draftPut_31 rfl 0 rfl ?_
    refine v_dup o dX11_draftPut_32 rfl ?_
    refine gt_11_71 o hK0 ln_5_166 dX11_draftPut_33 ?_
    refine v_iconst o (1 : Int32) dX11_draftPut_36 (by decide) ?_
    refine v_iadd o dX11_draftPut_37 ?_
    refine pt_11_71 o hK0 ln_5_166 dX11_draftPut_38 ?_
    refine v_iinc o (a4 + (-1 : Int32)) [(4, .int (a4 + (-1 : Int32))), (0, .ref (z_w q a0)), (1, .long a1)] dX11_draftPut_41 2 rfl rfl (by decide) rfl ?_
    refine v_goto o 5 dX11_draftPut_44 (by decide) ?_
    obtain rfl := z_some h
    refine v_sub [1, 2, 0] rfl ?_
    exact hk
def f_X11_draftPut (G : z_G) (D : z_D) (a0 : Nat) (a1 : Int64) (a3 : Int32) : Option (z_D) :=
  ((z_loop (fun v => c_X11_draftPut_5 G v.1 a0 a1 v.2) 4000 (D, (a3 - (1 : Int32)))).bind (fun e5 => (some e5)))
set_option maxRecDepth 100000 in
set_option maxHeartbeats 4000000 in
theorem b_X11_draftPut {q : z_Q} {X : z_X} {G : z_G} {D : z_D} {a0 : Nat} {a1 : Int64} {a3 : Int32}  {D1 : z_D} (o : z_O q X cX11_draftPut 5 "FlashTrustModel" "draftPut" none) (hX : x_R X = z_rm 0 0 0) (hK0 : z_K G a0 = 111) (h : f_X11_draftPut G D a0 a1 a3 = some D1) : z_V q X 5 (z_F q X none G D1 0 0) 0 0 G D 0 [(0, .ref (z_w q a0)), (1, .long a1), (3, .int a3)] [] := by
  unfold f_X11_draftPut at h
  refine v_iload_n o dX11_draftPut_0 rfl 2 rfl ?_
  refine v_iconst o (1 : Int32) dX11_draftPut_1 (by decide) ?_
  refine v_isub o dX11_draftPut_2 ?_
  refine v_istore o [(4, .int (a3 - (1 : Int32))), (0, .ref (z_w q a0)), (1, .long a1), (3, .int a3)] dX11_draftPut_3 (by decide) rfl ?_
  refine v_sub [1, 2, 0] rfl ?_
  obtain ⟨e5, he6, h⟩ := z_bind h
  refine z_loopV (P := p_X11_draftPut_5 q X _ G a0 a1) (E := x_X11_draftPut_5 q X _ G a0 a1) (fun v ρ hb hk => tc_X11_draftPut_5 (D := v.1) (a0 := a0) (a1 := a1) (a4 := v.2) o hX hK0 hb hk) 4000 _ e5 he6 ?_
  show z_V q X 5 _ _ _ G e5 47 [] []
  have hr := z_some h
  subst hr
  exact v_return o dX11_draftPut_47
theorem e_X11_draftPut {q : z_Q} {l : Launch} {G : z_G} {D : z_D} {a0 : Nat} {a1 : Int64} {a3 : Int32}  {D1 : z_D} (hK0 : z_K G a0 = 111) (h : f_X11_draftPut G D a0 a1 a3 = some D1) : z_E q l yX11_draftPut cX11_draftPut 5 none 0 0 0 [.ref (z_w q a0), .long a1, .int a3] G D none G D1 :=
  z_E.of (by decide) (Nat.le_of_ble_eq_true rfl) (fun X hX _ o => b_X11_draftPut o hX hK0 h)
def p_X11_draftKeysOf_2 (q : z_Q) (X : z_X) (Q : State → Prop) (G : z_G) (a0 : Nat) (a1 : Int32) : (z_D × Int32) → Prop := (fun v => z_V q X 3 Q 0 0 G v.1 2 [(0, .ref (z_w q a0)), (1, .int a1), (2, .int v.2)] [])
def x_X11_draftKeysOf_2 (q : z_Q) (X : z_X) (Q : State → Prop) (G : z_G) (a0 : Nat) (a1 : Int32) : z_D → Prop := (fun v => z_V q X 3 Q 0 0 G v 30 [] [])
def k_X11_draftKeysOf_2 (q : z_Q) (X : z_X) (Q : State → Prop) (G : z_G) (a0 : Nat) (a1 : Int32) : (z_D × Int32) ⊕ z_D → Prop := Sum.elim (p_X11_draftKeysOf_2 q X Q G a0 a1) (x_X11_draftKeysOf_2 q X Q G a0 a1)
def c_X11_draftKeysOf_2 (G : z_G) (D : z_D) (a0 : Nat) (a1 : Int32) (a2 : Int32) : Option ((z_D × Int32) ⊕ z_D) :=
  (if (16 : Int32) ≤ a2 then (some (.inr D)) else ((if ((a1 >>> (a2 &&& 31)) &&& (1 : Int32)) = (1 : Int32) then ((f_X11_draftPut G D a0 ((a2).toInt64) (1 : Int32)).bind (fun D4 => ((some (.inl (D4, (a2 + (1 : Int32)))))))) else ((some (.inl (D, (a2 + (1 : Int32)))))))))
set_option maxRecDepth 100000 in
set_option maxHeartbeats 4000000 in
theorem tc_X11_draftKeysOf_2 {q : z_Q} {X : z_X} {G : z_G} {D : z_D} {Q : State → Prop} {a0 : Nat} {a1 : Int32} {a2 : Int32} (o : z_O q X cX11_draftKeysOf 3 "FlashTrustModel" "draftKeysOf" none) (hX : x_R X = z_rm 1 0 0) (hK0 : z_K G a0 = 111) {ρ : (z_D × Int32) ⊕ z_D} (h : c_X11_draftKeysOf_2 G D a0 a1 a2 = some ρ) (hk : k_X11_draftKeysOf_2 q X Q G a0 a1 ρ) : z_V q X 3 Q 0 0 G D 2 [(0, .ref (z_w q a0)), (1, .int a1), (2, .int a2)] [] := by
  unfold c_X11_draftKeysOf_2 at h
  refine v_iload_n o dX11_draftKeysOf_2 rfl 2 rfl ?_
  refine v_bipush o (16 : Int32) dX11_draftKeysOf_3 (by decide) ?_
  refine v_icmp_ge o 30 dX11_draftKeysOf_5 (by decide) (fun c1 => ?_) (fun c1 => ?_)
  · replace h := z_ip c1 h
    obtain rfl := z_some h
    refine v_sub [] rfl ?_
    exact hk
  · replace h := z_in c1 h
    refine v_iload_n o dX11_draftKeysOf_8 rfl 1 rfl ?_
    refine v_iload_n o dX11_draftKeysOf_9 rfl 2 rfl ?_
    refine v_ishr o dX11_draftKeysOf_10 ?_
    refine v_iconst o (1 : Int32) dX11_draftKeysOf_11 (by decide) ?_
    refine v_iand o dX11_draftKeysOf_12 ?_
    refine v_iconst o (1 : Int32) dX11_draftKeysOf_13 (by decide) ?_
    refine v_icmp_ne o 24 dX11_draftKeysOf_14 (by decide) (fun c2 => ?_) (fun c2 => ?_)
    · replace h := z_in c2 h
      refine v_iinc o (a2 + (1 : Int32)) [(2, .int (a2 + (1 : Int32))), (0, .ref (z_w q a0)), (1, .int a1)] dX11_draftKeysOf_24 2 rfl rfl (by decide) rfl ?_
      refine v_goto o 2 dX11_draftKeysOf_27 (by decide) ?_
      obtain rfl := z_some h
      refine v_sub [1, 2, 0] rfl ?_
      exact hk
    · replace h := z_ip c2 h
      refine v_aload_n o dX11_draftKeysOf_17 rfl 0 rfl ?_
      refine v_iload_n o dX11_draftKeysOf_18 rfl 2 rfl ?_
      refine v_i2l o dX11_draftKeysOf_19 ?_
      refine v_iconst o (1 : Int32) dX11_draftKeysOf_20 (by decide) ?_
      obtain ⟨D4, he3, h⟩ := z_bind h
      refine v_callV o yw_X11_draftPut ln_7_64 wi_X11_draftPut ws_X11_draftPut hX (by decide) 11 rfl hK0 (As := [.long (a2).toInt64, .int (1 : Int32)]) rfl rfl (Nat.le_of_ble_eq_true rfl) (e_X11_draftPut hK0 he3) dX11_draftKeysOf_21 ?_
      refine v_iinc o (a2 + (1 : Int32)) [(2, .int (a2 + (1 : Int32))), (0, .ref (z_w q a0)), (1, .int a1)] dX11_draftKeysOf_24 2 rfl rfl (by decide) rfl ?_
      refine v_goto o 2 dX11_draftKeysOf_27 (by decide) ?_
      obtain rfl := z_some h
      refine v_sub [1, 2, 0] rfl ?_
      exact hk
def f_X11_draftKeysOf (G : z_G) (D : z_D) (a0 : Nat) (a1 : Int32) : Option (z_D) :=
  ((z_loop (fun v => c_X11_draftKeysOf_2 G v.1 a0 a1 v.2) 4000 (D, (0 : Int32))).bind (fun e5 => (some e5)))
set_option maxRecDepth 100000 in
set_option maxHeartbeats 4000000 in
theorem b_X11_draftKeysOf {q : z_Q} {X : z_X} {G : z_G} {D : z_D} {a0 : Nat} {a1 : Int32}  {D1 : z_D} (o : z_O q X cX11_draftKeysOf 3 "FlashTrustModel" "draftKeysOf" none) (hX : x_R X = z_rm 1 0 0) (hK0 : z_K G a0 = 111) (h : f_X11_draftKeysOf G D a0 a1 = some D1) : z_V q X 3 (z_F q X none G D1 0 0) 0 0 G D 0 [(0, .ref (z_w q a0)), (1, .int a1)] [] := by
  unfold f_X11_draftKeysOf at h
  refine v_iconst o (0 : Int32) dX11_draftKeysOf_0 (by decide) ?_
  refine v_istore_n o [(2, .int (0 : Int32)), (0, .ref (z_w q a0)), (1, .int a1)] dX11_draftKeysOf_1 rfl (by decide) rfl ?_
  refine v_sub [1, 2, 0] rfl ?_
  obtain ⟨e5, he6, h⟩ := z_bind h
  refine z_loopV (P := p_X11_draftKeysOf_2 q X _ G a0 a1) (E := x_X11_draftKeysOf_2 q X _ G a0 a1) (fun v ρ hb hk => tc_X11_draftKeysOf_2 (D := v.1) (a0 := a0) (a1 := a1) (a2 := v.2) o hX hK0 hb hk) 4000 _ e5 he6 ?_
  show z_V q X 3 _ _ _ G e5 30 [] []
  have hr := z_some h
  subst hr
  exact v_return o dX11_draftKeysOf_30
theorem e_X11_draftKeysOf {q : z_Q} {l : Launch} {G : z_G} {D : z_D} {a0 : Nat} {a1 : Int32}  {D1 : z_D} (hK0 : z_K G a0 = 111) (h : f_X11_draftKeysOf G D a0 a1 = some D1) : z_E q l yX11_draftKeysOf cX11_draftKeysOf 3 none 1 0 0 [.ref (z_w q a0), .int a1] G D none G D1 :=
  z_E.of (by decide) (Nat.le_of_ble_eq_true rfl) (fun X hX _ o => b_X11_draftKeysOf o hX hK0 h)
def p_X11_many_4 (q : z_Q) (X : z_X) (Q : State → Prop) (G : z_G) (D : z_D) (a0 : Int32) : (Int32 × Int32) → Prop := (fun v => z_V q X 3 Q 0 0 G D 4 [(0, .int a0), (1, .int v.1), (2, .int v.2)] [])
def x_X11_many_4 (q : z_Q) (X : z_X) (Q : State → Prop) (G : z_G) (D : z_D) (a0 : Int32) : Int32 → Prop := (fun v => z_V q X 3 Q 0 0 G D 24 [(1, .int v)] [])
def k_X11_many_4 (q : z_Q) (X : z_X) (Q : State → Prop) (G : z_G) (D : z_D) (a0 : Int32) : (Int32 × Int32) ⊕ Int32 → Prop := Sum.elim (p_X11_many_4 q X Q G D a0) (x_X11_many_4 q X Q G D a0)
def c_X11_many_4 (G : z_G) (D : z_D) (a0 : Int32) (a1 : Int32) (a2 : Int32) : Option ((Int32 × Int32) ⊕ Int32) :=
  (if (16 : Int32) ≤ a2 then (some (.inr a1)) else ((some (.inl ((a1 + ((a0 >>> (a2 &&& 31)) &&& (1 : Int32))), (a2 + (1 : Int32)))))))
set_option maxRecDepth 100000 in
set_option maxHeartbeats 4000000 in
theorem tc_X11_many_4 {q : z_Q} {X : z_X} {G : z_G} {D : z_D} {Q : State → Prop} {a0 : Int32} {a1 : Int32} {a2 : Int32} (o : z_O q X cX11_many 3 "FlashTrustModel" "many" (some .int)) (hX : x_R X = z_rm 0 0 0)  {ρ : (Int32 × Int32) ⊕ Int32} (h : c_X11_many_4 G D a0 a1 a2 = some ρ) (hk : k_X11_many_4 q X Q G D a0 ρ) : z_V q X 3 Q 0 0 G D 4 [(0, .int a0), (1, .int a1), (2, .int a2)] [] := by
  unfold c_X11_many_4 at h
  refine v_iload_n o dX11_many_4 rfl 2 rfl ?_
  refine v_bipush o (16 : Int32) dX11_many_5 (by decide) ?_
  refine v_icmp_ge o 24 dX11_many_7 (by decide) (fun c1 => ?_) (fun c1 => ?_)
  · replace h := z_ip c1 h
    obtain rfl := z_some h
    refine v_sub [1] rfl ?_
    exact hk
  · replace h := z_in c1 h
    refine v_iload_n o dX11_many_10 rfl 1 rfl ?_
    refine v_iload_n o dX11_many_11 rfl 0 rfl ?_
    refine v_iload_n o dX11_many_12 rfl 2 rfl ?_
    refine v_ishr o dX11_many_13 ?_
    refine v_iconst o (1 : Int32) dX11_many_14 (by decide) ?_
    refine v_iand o dX11_many_15 ?_
    refine v_iadd o dX11_many_16 ?_
    refine v_istore_n o [(1, .int (a1 + ((a0 >>> (a2 &&& 31)) &&& (1 : Int32)))), (0, .int a0), (2, .int a2)] dX11_many_17 rfl (by decide) rfl ?_
    refine v_iinc o (a2 + (1 : Int32)) [(2, .int (a2 + (1 : Int32))), (1, .int (a1 + ((a0 >>> (a2 &&& 31)) &&& (1 : Int32)))), (0, .int a0)] dX11_many_18 2 rfl rfl (by decide) rfl ?_
    refine v_goto o 4 dX11_many_21 (by decide) ?_
    obtain rfl := z_some h
    refine v_sub [2, 1, 0] rfl ?_
    exact hk
def f_X11_many (G : z_G) (D : z_D) (a0 : Int32) : Option (Int32) :=
  ((z_loop (fun v => c_X11_many_4 G D a0 v.1 v.2) 4000 ((0 : Int32), (0 : Int32))).bind (fun e2 => (some e2)))
set_option maxRecDepth 100000 in
set_option maxHeartbeats 4000000 in
theorem b_X11_many {q : z_Q} {X : z_X} {G : z_G} {D : z_D} {a0 : Int32} {r : Int32} (o : z_O q X cX11_many 3 "FlashTrustModel" "many" (some .int)) (hX : x_R X = z_rm 0 0 0)  (h : f_X11_many G D a0 = some r) : z_V q X 3 (z_F q X (some (.int r)) G D 0 0) 0 0 G D 0 [(0, .int a0)] [] := by
  unfold f_X11_many at h
  refine v_iconst o (0 : Int32) dX11_many_0 (by decide) ?_
  refine v_istore_n o [(1, .int (0 : Int32)), (0, .int a0)] dX11_many_1 rfl (by decide) rfl ?_
  refine v_iconst o (0 : Int32) dX11_many_2 (by decide) ?_
  refine v_istore_n o [(2, .int (0 : Int32)), (1, .int (0 : Int32)), (0, .int a0)] dX11_many_3 rfl (by decide) rfl ?_
  refine v_sub [2, 1, 0] rfl ?_
  obtain ⟨e2, he3, h⟩ := z_bind h
  refine z_loopV (P := p_X11_many_4 q X _ G D a0) (E := x_X11_many_4 q X _ G D a0) (fun v ρ hb hk => tc_X11_many_4 (D := D) (a0 := a0) (a1 := v.1) (a2 := v.2) o hX hb hk) 4000 _ e2 he3 ?_
  show z_V q X 3 _ _ _ G D 24 [(1, .int e2)] []
  refine v_iload_n o dX11_many_24 rfl 0 rfl ?_
  have hr := z_some h
  subst hr
  exact v_ireturn o dX11_many_25
theorem e_X11_many {q : z_Q} {l : Launch} {G : z_G} {D : z_D} {a0 : Int32} {r : Int32} (h : f_X11_many G D a0 = some r) : z_E q l yX11_many cX11_many 3 (some .int) 0 0 0 [.int a0] G D (some (.int r)) G D :=
  z_E.of (by decide) (Nat.le_of_ble_eq_true rfl) (fun X hX _ o => b_X11_many o hX h)
def p_X11_draftDigest_6 (q : z_Q) (X : z_X) (Q : State → Prop) (G : z_G) (a0 : Nat) : (z_D × Int32) → Prop := (fun v => z_V q X 2 Q 0 0 G v.1 6 [(0, .ref (z_w q a0)), (1, .int v.2)] [])
def x_X11_draftDigest_6 (q : z_Q) (X : z_X) (Q : State → Prop) (G : z_G) (a0 : Nat) : z_D → Prop := (fun v => z_V q X 2 Q 0 0 G v 30 [(0, .ref (z_w q a0))] [])
def k_X11_draftDigest_6 (q : z_Q) (X : z_X) (Q : State → Prop) (G : z_G) (a0 : Nat) : (z_D × Int32) ⊕ z_D → Prop := Sum.elim (p_X11_draftDigest_6 q X Q G a0) (x_X11_draftDigest_6 q X Q G a0)
def c_X11_draftDigest_6 (G : z_G) (D : z_D) (a0 : Nat) (a1 : Int32) : Option ((z_D × Int32) ⊕ z_D) :=
  (if (z_I D 1171 a0) ≤ a1 then (some (.inr D)) else (z_gK G 1 (z_R G 1169 a0) (z_gA G 1 (z_R G 1169 a0) a1 ((f_X11_digestByte G D a0 (z_U D (z_R G 1169 a0) (a1).toNatClampNeg)).bind (fun D8 => ((some (.inl (D8, (a1 + (1 : Int32)))))))))))
set_option maxRecDepth 100000 in
set_option maxHeartbeats 4000000 in
theorem tc_X11_draftDigest_6 {q : z_Q} {X : z_X} {G : z_G} {D : z_D} {Q : State → Prop} {a0 : Nat} {a1 : Int32} (o : z_O q X cX11_draftDigest 2 "FlashTrustModel" "draftDigest" (some .long)) (hX : x_R X = z_rm 1 0 0) (hK0 : z_K G a0 = 111) {ρ : (z_D × Int32) ⊕ z_D} (h : c_X11_draftDigest_6 G D a0 a1 = some ρ) (hk : k_X11_draftDigest_6 q X Q G a0 ρ) : z_V q X 2 Q 0 0 G D 6 [(0, .ref (z_w q a0)), (1, .int a1)] [] := by
  unfold c_X11_draftDigest_6 at h
  refine v_iload_n o dX11_draftDigest_6 rfl 1 rfl ?_
  refine v_aload_n o dX11_draftDigest_7 rfl 0 rfl ?_
  refine gt_11_71 o hK0 ln_5_166 dX11_draftDigest_8 ?_
  refine v_icmp_ge o 30 dX11_draftDigest_11 (by decide) (fun c3 => ?_) (fun c3 => ?_)
  · replace h := z_ip c3 h
    obtain rfl := z_some h
    refine v_sub [0] rfl ?_
    exact hk
  · replace h := z_in c3 h
    refine v_aload_n o dX11_draftDigest_14 rfl 0 rfl ?_
    refine v_aload_n o dX11_draftDigest_15 rfl 0 rfl ?_
    obtain ⟨n4, h⟩ := z_gK_of h
    refine gt_11_69 o hK0 ln_5_164 (by rw [n4]; decide) dX11_draftDigest_16 ?_
    refine v_iload_n o dX11_draftDigest_19 rfl 1 rfl ?_
    obtain ⟨n5, n6, h⟩ := z_gA_of h
    refine v_iald o n5 n6 dX11_draftDigest_20 ?_
    obtain ⟨D8, he7, h⟩ := z_bind h
    refine v_callV o yw_X11_digestByte ln_5_57 wi_X11_digestByte ws_X11_digestByte hX (by decide) 11 rfl hK0 (As := [.int (z_U D (z_R G 1169 a0) (a1).toNatClampNeg)]) rfl rfl (Nat.le_of_ble_eq_true rfl) (e_X11_digestByte hK0 he7) dX11_draftDigest_21 ?_
    refine v_iinc o (a1 + (1 : Int32)) [(1, .int (a1 + (1 : Int32))), (0, .ref (z_w q a0))] dX11_draftDigest_24 1 rfl rfl (by decide) rfl ?_
    refine v_goto o 6 dX11_draftDigest_27 (by decide) ?_
    obtain rfl := z_some h
    refine v_sub [1, 0] rfl ?_
    exact hk
def f_X11_draftDigest (G : z_G) (D : z_D) (a0 : Nat) : Option (Int64 × z_D) :=
  (f_X11_digestBegin G D a0).bind (fun D2 => (((z_loop (fun v => c_X11_draftDigest_6 G v.1 a0 v.2) 4000 (D2, (0 : Int32))).bind (fun e9 => (some ((z_J e9 1110 a0), e9))))))
set_option maxRecDepth 100000 in
set_option maxHeartbeats 4000000 in
theorem b_X11_draftDigest {q : z_Q} {X : z_X} {G : z_G} {D : z_D} {a0 : Nat} {r : Int64} {D1 : z_D} (o : z_O q X cX11_draftDigest 2 "FlashTrustModel" "draftDigest" (some .long)) (hX : x_R X = z_rm 1 0 0) (hK0 : z_K G a0 = 111) (h : f_X11_draftDigest G D a0 = some (r, D1)) : z_V q X 2 (z_F q X (some (.long r)) G D1 0 0) 0 0 G D 0 [(0, .ref (z_w q a0))] [] := by
  unfold f_X11_draftDigest at h
  refine v_aload_n o dX11_draftDigest_0 rfl 0 rfl ?_
  obtain ⟨D2, he1, h⟩ := z_bind h
  refine v_callV o yw_X11_digestBegin ln_5_52 wi_X11_digestBegin ws_X11_digestBegin hX (by decide) 11 rfl hK0 (As := []) rfl rfl (Nat.le_of_ble_eq_true rfl) (e_X11_digestBegin hK0 he1) dX11_draftDigest_1 ?_
  refine v_iconst o (0 : Int32) dX11_draftDigest_4 (by decide) ?_
  refine v_istore_n o [(1, .int (0 : Int32)), (0, .ref (z_w q a0))] dX11_draftDigest_5 rfl (by decide) rfl ?_
  refine v_sub [1, 0] rfl ?_
  obtain ⟨e9, he10, h⟩ := z_bind h
  refine z_loopV (P := p_X11_draftDigest_6 q X _ G a0) (E := x_X11_draftDigest_6 q X _ G a0) (fun v ρ hb hk => tc_X11_draftDigest_6 (D := v.1) (a0 := a0) (a1 := v.2) o hX hK0 hb hk) 4000 _ e9 he10 ?_
  show z_V q X 2 _ _ _ G e9 30 [(0, .ref (z_w q a0))] []
  refine v_aload_n o dX11_draftDigest_30 rfl 0 rfl ?_
  refine gt_11_10 o hK0 ln_5_105 dX11_draftDigest_31 ?_
  obtain ⟨hr, hs⟩ := Prod.mk.inj (z_some h)
  subst hr
  subst hs
  exact v_lreturn o dX11_draftDigest_34
theorem e_X11_draftDigest {q : z_Q} {l : Launch} {G : z_G} {D : z_D} {a0 : Nat} {r : Int64} {D1 : z_D} (hK0 : z_K G a0 = 111) (h : f_X11_draftDigest G D a0 = some (r, D1)) : z_E q l yX11_draftDigest cX11_draftDigest 2 (some .long) 1 0 0 [.ref (z_w q a0)] G D (some (.long r)) G D1 :=
  z_E.of (by decide) (Nat.le_of_ble_eq_true rfl) (fun X hX _ o => b_X11_draftDigest o hX hK0 h)
def j_X11_draft_259 (G : z_G) (D : z_D) (a0 : Nat) (a1 : Int32) (a2 : Int32)  : Option (Int32 × z_D) :=
  (if a1 < (2 : Int32) then ((some ((z_I D 1171 a0), D))) else (z_gK G 1 (z_R G 1173 a0) (z_gA G 1 (z_R G 1173 a0) a1 (z_gK G 2 (z_R G 1174 a0) ((f_X11_draftDigest G (z_sU D (z_R G 1173 a0) (a1).toNatClampNeg a2) a0).bind (fun p28 => (z_gA G 2 (z_R G 1174 a0) a1 ((some ((z_I (z_sY p28.2 (z_R G 1174 a0) (a1).toNatClampNeg p28.1) 1171 a0), (z_sY p28.2 (z_R G 1174 a0) (a1).toNatClampNeg p28.1)))))))))))
set_option maxRecDepth 100000 in
set_option maxHeartbeats 4000000 in
theorem tj_X11_draft_259 {q : z_Q} {X : z_X} {G : z_G} {D : z_D} {a0 : Nat} {a1 : Int32} {a2 : Int32}  {r : Int32} {D1 : z_D} (o : z_O q X cX11_draft 7 "FlashTrustModel" "draft" (some .int)) (hX : x_R X = z_rm 2 0 0) (hK0 : z_K G a0 = 111) (h : j_X11_draft_259 G D a0 a1 a2  = some (r, D1)) : z_V q X 7 (z_F q X (some (.int r)) G D1 0 0) 0 0 G D 259 [(0, .ref (z_w q a0)), (1, .int a1), (2, .int a2)] [] := by
  unfold j_X11_draft_259 at h
  refine v_iload_n o dX11_draft_259 rfl 1 rfl ?_
  refine v_iconst o (2 : Int32) dX11_draft_260 (by decide) ?_
  refine v_icmp_lt o 281 dX11_draft_261 (by decide) (fun c22 => ?_) (fun c22 => ?_)
  · replace h := z_ip c22 h
    refine v_aload_n o dX11_draft_281 rfl 0 rfl ?_
    refine gt_11_71 o hK0 ln_5_166 dX11_draft_282 ?_
    obtain ⟨hr, hs⟩ := Prod.mk.inj (z_some h)
    subst hr
    subst hs
    exact v_ireturn o dX11_draft_285
  · replace h := z_in c22 h
    refine v_aload_n o dX11_draft_264 rfl 0 rfl ?_
    obtain ⟨n23, h⟩ := z_gK_of h
    refine gt_11_73 o hK0 ln_5_168 (by rw [n23]; decide) dX11_draft_265 ?_
    refine v_iload_n o dX11_draft_268 rfl 1 rfl ?_
    refine v_iload_n o dX11_draft_269 rfl 2 rfl ?_
    obtain ⟨n24, n25, h⟩ := z_gA_of h
    refine v_iast o n24 n25 dX11_draft_270 ?_
    refine v_aload_n o dX11_draft_271 rfl 0 rfl ?_
    obtain ⟨n26, h⟩ := z_gK_of h
    refine gt_11_74 o hK0 ln_5_169 (by rw [n26]; decide) dX11_draft_272 ?_
    refine v_iload_n o dX11_draft_275 rfl 1 rfl ?_
    refine v_aload_n o dX11_draft_276 rfl 0 rfl ?_
    obtain ⟨p28, he27, h⟩ := z_bind h
    refine v_callV o yw_X11_draftDigest ln_7_79 wi_X11_draftDigest ws_X11_draftDigest hX (by decide) 11 rfl hK0 (As := []) rfl rfl (Nat.le_of_ble_eq_true rfl) (e_X11_draftDigest hK0 he27) dX11_draft_277 ?_
    obtain ⟨n29, n30, h⟩ := z_gA_of h
    refine v_last o n29 n30 dX11_draft_280 ?_
    refine v_aload_n o dX11_draft_281 rfl 0 rfl ?_
    refine gt_11_71 o hK0 ln_5_166 dX11_draft_282 ?_
    obtain ⟨hr, hs⟩ := Prod.mk.inj (z_some h)
    subst hr
    subst hs
    exact v_ireturn o dX11_draft_285
def p_X11_draft_136 (q : z_Q) (X : z_X) (Q : State → Prop) (G : z_G) (a0 : Nat) (a1 : Int32) (a2 : Int32) : (z_D × Int32) → Prop := (fun v => z_V q X 7 Q 0 0 G v.1 136 [(0, .ref (z_w q a0)), (1, .int a1), (2, .int a2), (4, .int v.2)] [])
def x_X11_draft_136 (q : z_Q) (X : z_X) (Q : State → Prop) (G : z_G) (a0 : Nat) (a1 : Int32) (a2 : Int32) : z_D → Prop := (fun v => z_V q X 7 Q 0 0 G v 228 [(0, .ref (z_w q a0)), (1, .int a1), (2, .int a2)] [])
def k_X11_draft_136 (q : z_Q) (X : z_X) (Q : State → Prop) (G : z_G) (a0 : Nat) (a1 : Int32) (a2 : Int32) : (z_D × Int32) ⊕ z_D → Prop := Sum.elim (p_X11_draft_136 q X Q G a0 a1 a2) (x_X11_draft_136 q X Q G a0 a1 a2)
def p_X11_draft_152 (q : z_Q) (X : z_X) (Q : State → Prop) (G : z_G) (a0 : Nat) (a1 : Int32) (a2 : Int32) (a4 : Int32) : (z_D × Int32) → Prop := (fun v => z_V q X 7 Q 0 0 G v.1 152 [(0, .ref (z_w q a0)), (1, .int a1), (2, .int a2), (4, .int a4), (5, .int v.2)] [])
def x_X11_draft_152 (q : z_Q) (X : z_X) (Q : State → Prop) (G : z_G) (a0 : Nat) (a1 : Int32) (a2 : Int32) (a4 : Int32) : z_D → Prop := (fun v => z_V q X 7 Q 0 0 G v 182 [(0, .ref (z_w q a0)), (1, .int a1), (2, .int a2), (4, .int a4)] [])
def k_X11_draft_152 (q : z_Q) (X : z_X) (Q : State → Prop) (G : z_G) (a0 : Nat) (a1 : Int32) (a2 : Int32) (a4 : Int32) : (z_D × Int32) ⊕ z_D → Prop := Sum.elim (p_X11_draft_152 q X Q G a0 a1 a2 a4) (x_X11_draft_152 q X Q G a0 a1 a2 a4)
def c_X11_draft_152 (G : z_G) (D : z_D) (a0 : Nat) (a1 : Int32) (a2 : Int32) (a4 : Int32) (a5 : Int32) : Option ((z_D × Int32) ⊕ z_D) :=
  z_gK G 1 (z_R G 1167 a0) (z_gA G 1 (z_R G 1167 a0) a4 ((if (z_U D (z_R G 1167 a0) (a4).toNatClampNeg) ≤ a5 then (some (.inr D)) else ((f_X11_imageByte G D a0 a4 a5).bind (fun r41 => ((f_X11_digestByte G D a0 r41).bind (fun D43 => ((some (.inl (D43, (a5 + (1 : Int32)))))))))))))
set_option maxRecDepth 100000 in
set_option maxHeartbeats 4000000 in
theorem tc_X11_draft_152 {q : z_Q} {X : z_X} {G : z_G} {D : z_D} {Q : State → Prop} {a0 : Nat} {a1 : Int32} {a2 : Int32} {a4 : Int32} {a5 : Int32} (o : z_O q X cX11_draft 7 "FlashTrustModel" "draft" (some .int)) (hX : x_R X = z_rm 2 0 0) (hK0 : z_K G a0 = 111) {ρ : (z_D × Int32) ⊕ z_D} (h : c_X11_draft_152 G D a0 a1 a2 a4 a5 = some ρ) (hk : k_X11_draft_152 q X Q G a0 a1 a2 a4 ρ) : z_V q X 7 Q 0 0 G D 152 [(0, .ref (z_w q a0)), (1, .int a1), (2, .int a2), (4, .int a4), (5, .int a5)] [] := by
  unfold c_X11_draft_152 at h
  refine v_iload o dX11_draft_152 4 rfl ?_
  refine v_aload_n o dX11_draft_154 rfl 0 rfl ?_
  obtain ⟨n36, h⟩ := z_gK_of h
  refine gt_11_67 o hK0 ln_5_162 (by rw [n36]; decide) dX11_draft_155 ?_
  refine v_iload o dX11_draft_158 3 rfl ?_
  obtain ⟨n37, n38, h⟩ := z_gA_of h
  refine v_iald o n37 n38 dX11_draft_160 ?_
  refine v_icmp_ge o 182 dX11_draft_161 (by decide) (fun c39 => ?_) (fun c39 => ?_)
  · replace h := z_ip c39 h
    obtain rfl := z_some h
    refine v_sub [0, 1, 2, 3] rfl ?_
    exact hk
  · replace h := z_in c39 h
    refine v_aload_n o dX11_draft_164 rfl 0 rfl ?_
    refine v_aload_n o dX11_draft_165 rfl 0 rfl ?_
    refine v_iload o dX11_draft_166 3 rfl ?_
    refine v_iload o dX11_draft_168 4 rfl ?_
    obtain ⟨r41, he40, h⟩ := z_bind h
    refine v_callV o yw_X11_imageByte ln_7_75 wi_X11_imageByte ws_X11_imageByte hX (by decide) 11 rfl hK0 (As := [.int a4, .int a5]) rfl rfl (Nat.le_of_ble_eq_true rfl) (e_X11_imageByte hK0 he40) dX11_draft_170 ?_
    obtain ⟨D43, he42, h⟩ := z_bind h
    refine v_callV o yw_X11_digestByte ln_5_57 wi_X11_digestByte ws_X11_digestByte hX (by decide) 11 rfl hK0 (As := [.int r41]) rfl rfl (Nat.le_of_ble_eq_true rfl) (e_X11_digestByte hK0 he42) dX11_draft_173 ?_
    refine v_iinc o (a5 + (1 : Int32)) [(5, .int (a5 + (1 : Int32))), (0, .ref (z_w q a0)), (1, .int a1), (2, .int a2), (4, .int a4)] dX11_draft_176 4 rfl rfl (by decide) rfl ?_
    refine v_goto o 152 dX11_draft_179 (by decide) ?_
    obtain rfl := z_some h
    refine v_sub [1, 2, 3, 4, 0] rfl ?_
    exact hk
def c_X11_draft_136 (G : z_G) (D : z_D) (a0 : Nat) (a1 : Int32) (a2 : Int32) (a4 : Int32) : Option ((z_D × Int32) ⊕ z_D) :=
  (if (z_I D 1165 a0) ≤ a4 then (some (.inr D)) else ((f_X11_digestBegin G D a0).bind (fun D35 => (((z_loop (fun v => c_X11_draft_152 G v.1 a0 a1 a2 a4 v.2) 4000 (D35, (0 : Int32))).bind (fun e44 => z_gK G 1 (z_R G 1166 a0) (z_gA G 1 (z_R G 1166 a0) a4 ((f_X11_draftPut G e44 a0 (((z_U e44 (z_R G 1166 a0) (a4).toNatClampNeg)).toInt64) (2 : Int32)).bind (fun D50 => (z_gK G 1 (z_R G 1167 a0) (z_gA G 1 (z_R G 1167 a0) a4 ((f_X11_draftPut G D50 a0 (((z_U D50 (z_R G 1167 a0) (a4).toNatClampNeg)).toInt64) (2 : Int32)).bind (fun D55 => ((f_X11_draftPut G D55 a0 (z_J e44 1110 a0) (8 : Int32)).bind (fun D57 => ((some (.inl (D57, (a4 + (1 : Int32)))))))))))))))))))))
set_option maxRecDepth 100000 in
set_option maxHeartbeats 4000000 in
theorem tc_X11_draft_136 {q : z_Q} {X : z_X} {G : z_G} {D : z_D} {Q : State → Prop} {a0 : Nat} {a1 : Int32} {a2 : Int32} {a4 : Int32} (o : z_O q X cX11_draft 7 "FlashTrustModel" "draft" (some .int)) (hX : x_R X = z_rm 2 0 0) (hK0 : z_K G a0 = 111) {ρ : (z_D × Int32) ⊕ z_D} (h : c_X11_draft_136 G D a0 a1 a2 a4 = some ρ) (hk : k_X11_draft_136 q X Q G a0 a1 a2 ρ) : z_V q X 7 Q 0 0 G D 136 [(0, .ref (z_w q a0)), (1, .int a1), (2, .int a2), (4, .int a4)] [] := by
  unfold c_X11_draft_136 at h
  refine v_iload o dX11_draft_136 3 rfl ?_
  refine v_aload_n o dX11_draft_138 rfl 0 rfl ?_
  refine gt_11_65 o hK0 ln_5_160 dX11_draft_139 ?_
  refine v_icmp_ge o 228 dX11_draft_142 (by decide) (fun c33 => ?_) (fun c33 => ?_)
  · replace h := z_ip c33 h
    obtain rfl := z_some h
    refine v_sub [0, 1, 2] rfl ?_
    exact hk
  · replace h := z_in c33 h
    refine v_aload_n o dX11_draft_145 rfl 0 rfl ?_
    obtain ⟨D35, he34, h⟩ := z_bind h
    refine v_callV o yw_X11_digestBegin ln_5_52 wi_X11_digestBegin ws_X11_digestBegin hX (by decide) 11 rfl hK0 (As := []) rfl rfl (Nat.le_of_ble_eq_true rfl) (e_X11_digestBegin hK0 he34) dX11_draft_146 ?_
    refine v_iconst o (0 : Int32) dX11_draft_149 (by decide) ?_
    refine v_istore o [(5, .int (0 : Int32)), (0, .ref (z_w q a0)), (1, .int a1), (2, .int a2), (4, .int a4)] dX11_draft_150 (by decide) rfl ?_
    refine v_sub [1, 2, 3, 4, 0] rfl ?_
    obtain ⟨e44, he45, h⟩ := z_bind h
    refine z_loopV (P := p_X11_draft_152 q X _ G a0 a1 a2 a4) (E := x_X11_draft_152 q X _ G a0 a1 a2 a4) (fun v ρ hb hk => tc_X11_draft_152 (D := v.1) (a0 := a0) (a1 := a1) (a2 := a2) (a4 := a4) (a5 := v.2) o hX hK0 hb hk) 4000 _ e44 he45 ?_
    show z_V q X 7 _ _ _ G e44 182 [(0, .ref (z_w q a0)), (1, .int a1), (2, .int a2), (4, .int a4)] []
    refine v_aload_n o dX11_draft_182 rfl 0 rfl ?_
    refine gt_11_10 o hK0 ln_5_105 dX11_draft_183 ?_
    refine v_lstore o [(5, .long (z_J e44 1110 a0)), (0, .ref (z_w q a0)), (1, .int a1), (2, .int a2), (4, .int a4)] dX11_draft_186 (by decide) rfl ?_
    refine v_aload_n o dX11_draft_188 rfl 1 rfl ?_
    refine v_aload_n o dX11_draft_189 rfl 1 rfl ?_
    obtain ⟨n46, h⟩ := z_gK_of h
    refine gt_11_66 o hK0 ln_5_161 (by rw [n46]; decide) dX11_draft_190 ?_
    refine v_iload o dX11_draft_193 4 rfl ?_
    obtain ⟨n47, n48, h⟩ := z_gA_of h
    refine v_iald o n47 n48 dX11_draft_195 ?_
    refine v_i2l o dX11_draft_196 ?_
    refine v_iconst o (2 : Int32) dX11_draft_197 (by decide) ?_
    obtain ⟨D50, he49, h⟩ := z_bind h
    refine v_callV o yw_X11_draftPut ln_7_64 wi_X11_draftPut ws_X11_draftPut hX (by decide) 11 rfl hK0 (As := [.long ((z_U e44 (z_R G 1166 a0) (a4).toNatClampNeg)).toInt64, .int (2 : Int32)]) rfl rfl (Nat.le_of_ble_eq_true rfl) (e_X11_draftPut hK0 he49) dX11_draft_198 ?_
    refine v_aload_n o dX11_draft_201 rfl 1 rfl ?_
    refine v_aload_n o dX11_draft_202 rfl 1 rfl ?_
    obtain ⟨n51, h⟩ := z_gK_of h
    refine gt_11_67 o hK0 ln_5_162 (by rw [n51]; decide) dX11_draft_203 ?_
    refine v_iload o dX11_draft_206 4 rfl ?_
    obtain ⟨n52, n53, h⟩ := z_gA_of h
    refine v_iald o n52 n53 dX11_draft_208 ?_
    refine v_i2l o dX11_draft_209 ?_
    refine v_iconst o (2 : Int32) dX11_draft_210 (by decide) ?_
    obtain ⟨D55, he54, h⟩ := z_bind h
    refine v_callV o yw_X11_draftPut ln_7_64 wi_X11_draftPut ws_X11_draftPut hX (by decide) 11 rfl hK0 (As := [.long ((z_U D50 (z_R G 1167 a0) (a4).toNatClampNeg)).toInt64, .int (2 : Int32)]) rfl rfl (Nat.le_of_ble_eq_true rfl) (e_X11_draftPut hK0 he54) dX11_draft_211 ?_
    refine v_aload_n o dX11_draft_214 rfl 1 rfl ?_
    refine v_lload o dX11_draft_215 0 rfl ?_
    refine v_bipush o (8 : Int32) dX11_draft_217 (by decide) ?_
    obtain ⟨D57, he56, h⟩ := z_bind h
    refine v_callV o yw_X11_draftPut ln_7_64 wi_X11_draftPut ws_X11_draftPut hX (by decide) 11 rfl hK0 (As := [.long (z_J e44 1110 a0), .int (8 : Int32)]) rfl rfl (Nat.le_of_ble_eq_true rfl) (e_X11_draftPut hK0 he56) dX11_draft_219 ?_
    refine v_iinc o (a4 + (1 : Int32)) [(4, .int (a4 + (1 : Int32))), (5, .long (z_J e44 1110 a0)), (0, .ref (z_w q a0)), (1, .int a1), (2, .int a2)] dX11_draft_222 4 rfl rfl (by decide) rfl ?_
    refine v_goto o 136 dX11_draft_225 (by decide) ?_
    obtain rfl := z_some h
    refine v_sub [2, 3, 4, 0] rfl ?_
    exact hk
def p_X11_draft_63 (q : z_Q) (X : z_X) (Q : State → Prop) (G : z_G) (a0 : Nat) (a1 : Int32) (a2 : Int32) : (z_D × Int32) → Prop := (fun v => z_V q X 7 Q 0 0 G v.1 63 [(0, .ref (z_w q a0)), (1, .int a1), (2, .int a2), (4, .int v.2)] [])
def x_X11_draft_63 (q : z_Q) (X : z_X) (Q : State → Prop) (G : z_G) (a0 : Nat) (a1 : Int32) (a2 : Int32) : z_D → Prop := (fun v => z_V q X 7 Q 0 0 G v 115 [(0, .ref (z_w q a0)), (1, .int a1), (2, .int a2)] [])
def k_X11_draft_63 (q : z_Q) (X : z_X) (Q : State → Prop) (G : z_G) (a0 : Nat) (a1 : Int32) (a2 : Int32) : (z_D × Int32) ⊕ z_D → Prop := Sum.elim (p_X11_draft_63 q X Q G a0 a1 a2) (x_X11_draft_63 q X Q G a0 a1 a2)
def c_X11_draft_63 (G : z_G) (D : z_D) (a0 : Nat) (a1 : Int32) (a2 : Int32) (a4 : Int32) : Option ((z_D × Int32) ⊕ z_D) :=
  (if (4 : Int32) ≤ a4 then (some (.inr D)) else (z_gK G 1 (z_R G 1164 a0) (z_gA G 1 (z_R G 1164 a0) a4 ((f_X11_draftPut G D a0 (((z_U D (z_R G 1164 a0) (a4).toNatClampNeg)).toInt64) (1 : Int32)).bind (fun D65 => (z_gK G 1 (z_R G 1163 a0) (z_gA G 1 (z_R G 1163 a0) a4 ((f_X11_many G D65 (z_U D65 (z_R G 1163 a0) (a4).toNatClampNeg)).bind (fun r70 => ((f_X11_draftPut G D65 a0 ((r70).toInt64) (1 : Int32)).bind (fun D72 => (z_gA G 1 (z_R G 1163 a0) a4 ((f_X11_draftKeysOf G D72 a0 (z_U D72 (z_R G 1163 a0) (a4).toNatClampNeg)).bind (fun D76 => ((some (.inl (D76, (a4 + (1 : Int32))))))))))))))))))))
set_option maxRecDepth 100000 in
set_option maxHeartbeats 4000000 in
theorem tc_X11_draft_63 {q : z_Q} {X : z_X} {G : z_G} {D : z_D} {Q : State → Prop} {a0 : Nat} {a1 : Int32} {a2 : Int32} {a4 : Int32} (o : z_O q X cX11_draft 7 "FlashTrustModel" "draft" (some .int)) (hX : x_R X = z_rm 2 0 0) (hK0 : z_K G a0 = 111) {ρ : (z_D × Int32) ⊕ z_D} (h : c_X11_draft_63 G D a0 a1 a2 a4 = some ρ) (hk : k_X11_draft_63 q X Q G a0 a1 a2 ρ) : z_V q X 7 Q 0 0 G D 63 [(0, .ref (z_w q a0)), (1, .int a1), (2, .int a2), (4, .int a4)] [] := by
  unfold c_X11_draft_63 at h
  refine v_iload o dX11_draft_63 3 rfl ?_
  refine v_iconst o (4 : Int32) dX11_draft_65 (by decide) ?_
  refine v_icmp_ge o 115 dX11_draft_66 (by decide) (fun c60 => ?_) (fun c60 => ?_)
  · replace h := z_ip c60 h
    obtain rfl := z_some h
    refine v_sub [0, 1, 2] rfl ?_
    exact hk
  · replace h := z_in c60 h
    refine v_aload_n o dX11_draft_69 rfl 0 rfl ?_
    refine v_aload_n o dX11_draft_70 rfl 0 rfl ?_
    obtain ⟨n61, h⟩ := z_gK_of h
    refine gt_11_64 o hK0 ln_5_159 (by rw [n61]; decide) dX11_draft_71 ?_
    refine v_iload o dX11_draft_74 3 rfl ?_
    obtain ⟨n62, n63, h⟩ := z_gA_of h
    refine v_iald o n62 n63 dX11_draft_76 ?_
    refine v_i2l o dX11_draft_77 ?_
    refine v_iconst o (1 : Int32) dX11_draft_78 (by decide) ?_
    obtain ⟨D65, he64, h⟩ := z_bind h
    refine v_callV o yw_X11_draftPut ln_7_64 wi_X11_draftPut ws_X11_draftPut hX (by decide) 11 rfl hK0 (As := [.long ((z_U D (z_R G 1164 a0) (a4).toNatClampNeg)).toInt64, .int (1 : Int32)]) rfl rfl (Nat.le_of_ble_eq_true rfl) (e_X11_draftPut hK0 he64) dX11_draft_79 ?_
    refine v_aload_n o dX11_draft_82 rfl 0 rfl ?_
    refine v_aload_n o dX11_draft_83 rfl 0 rfl ?_
    obtain ⟨n66, h⟩ := z_gK_of h
    refine gt_11_63 o hK0 ln_5_158 (by rw [n66]; decide) dX11_draft_84 ?_
    refine v_iload o dX11_draft_87 3 rfl ?_
    obtain ⟨n67, n68, h⟩ := z_gA_of h
    refine v_iald o n67 n68 dX11_draft_89 ?_
    obtain ⟨r70, he69, h⟩ := z_bind h
    refine v_callS o yw_X11_many ln_7_68 ws_X11_many hX (by decide) (As := [.int (z_U D65 (z_R G 1163 a0) (a4).toNatClampNeg)]) rfl rfl (Nat.le_of_ble_eq_true rfl) (e_X11_many he69) dX11_draft_90 ?_
    refine v_i2l o dX11_draft_93 ?_
    refine v_iconst o (1 : Int32) dX11_draft_94 (by decide) ?_
    obtain ⟨D72, he71, h⟩ := z_bind h
    refine v_callV o yw_X11_draftPut ln_7_64 wi_X11_draftPut ws_X11_draftPut hX (by decide) 11 rfl hK0 (As := [.long (r70).toInt64, .int (1 : Int32)]) rfl rfl (Nat.le_of_ble_eq_true rfl) (e_X11_draftPut hK0 he71) dX11_draft_95 ?_
    refine v_aload_n o dX11_draft_98 rfl 0 rfl ?_
    refine v_aload_n o dX11_draft_99 rfl 0 rfl ?_
    refine gt_11_63 o hK0 ln_5_158 (by rw [n66]; decide) dX11_draft_100 ?_
    refine v_iload o dX11_draft_103 3 rfl ?_
    obtain ⟨n73, n74, h⟩ := z_gA_of h
    refine v_iald o n73 n74 dX11_draft_105 ?_
    obtain ⟨D76, he75, h⟩ := z_bind h
    refine v_callV o yw_X11_draftKeysOf ln_7_71 wi_X11_draftKeysOf ws_X11_draftKeysOf hX (by decide) 11 rfl hK0 (As := [.int (z_U D72 (z_R G 1163 a0) (a4).toNatClampNeg)]) rfl rfl (Nat.le_of_ble_eq_true rfl) (e_X11_draftKeysOf hK0 he75) dX11_draft_106 ?_
    refine v_iinc o (a4 + (1 : Int32)) [(4, .int (a4 + (1 : Int32))), (0, .ref (z_w q a0)), (1, .int a1), (2, .int a2)] dX11_draft_109 3 rfl rfl (by decide) rfl ?_
    refine v_goto o 63 dX11_draft_112 (by decide) ?_
    obtain rfl := z_some h
    refine v_sub [1, 2, 3, 0] rfl ?_
    exact hk
def f_X11_draft (G : z_G) (D : z_D) (a0 : Nat) (a1 : Int32) (a2 : Int32) (a3 : Int32) : Option (Int32 × z_D) :=
  (if a1 < (0 : Int32) then ((some ((-1 : Int32), D))) else ((if (3 : Int32) < a1 then ((some ((-1 : Int32), D))) else ((if a2 < (1 : Int32) then ((some ((-1 : Int32), D))) else ((if (65535 : Int32) < a2 then ((some ((-1 : Int32), D))) else ((if (0 : Int32) ≤ a3 then ((f_X11_draftPut G (z_sI (z_sI (z_sI D 1170 a0 a1) 1171 a0 (0 : Int32)) 1172 a0 (0 : Int32)) a0 ((a2).toInt64) (2 : Int32)).bind (fun D7 => ((f_X11_draftPut G D7 a0 ((a3).toInt64) (4 : Int32)).bind (fun D9 => ((if a1 = (0 : Int32) then (((z_loop (fun v => c_X11_draft_63 G v.1 a0 a1 a2 v.2) 4000 (D9, (0 : Int32))).bind (fun e77 => (j_X11_draft_259 G e77  a0 a1 a2)))) else ((if a1 = (3 : Int32) then ((f_X11_draftPut G D9 a0 (((z_I D9 1165 a0)).toInt64) (1 : Int32)).bind (fun D32 => (((z_loop (fun v => c_X11_draft_136 G v.1 a0 a1 a2 v.2) 4000 (D32, (0 : Int32))).bind (fun e58 => (j_X11_draft_259 G e58  a0 a1 a2)))))) else (z_gK G 1 (z_R G 1173 a0) (z_gA G 1 (z_R G 1173 a0) (a1 + (1 : Int32)) ((f_X11_draftPut G D9 a0 (((z_U D9 (z_R G 1173 a0) ((a1 + (1 : Int32))).toNatClampNeg)).toInt64) (2 : Int32)).bind (fun D16 => (z_gK G 2 (z_R G 1174 a0) (z_gA G 2 (z_R G 1174 a0) (a1 + (1 : Int32)) ((f_X11_draftPut G D16 a0 (z_Y D16 (z_R G 1174 a0) ((a1 + (1 : Int32))).toNatClampNeg) (8 : Int32)).bind (fun D21 => ((j_X11_draft_259 G D21  a0 a1 a2)))))))))))))))))) else ((some ((-1 : Int32), D))))))))))))
set_option maxRecDepth 100000 in
set_option maxHeartbeats 4000000 in
theorem b_X11_draft {q : z_Q} {X : z_X} {G : z_G} {D : z_D} {a0 : Nat} {a1 : Int32} {a2 : Int32} {a3 : Int32} {r : Int32} {D1 : z_D} (o : z_O q X cX11_draft 7 "FlashTrustModel" "draft" (some .int)) (hX : x_R X = z_rm 2 0 0) (hK0 : z_K G a0 = 111) (h : f_X11_draft G D a0 a1 a2 a3 = some (r, D1)) : z_V q X 7 (z_F q X (some (.int r)) G D1 0 0) 0 0 G D 0 [(0, .ref (z_w q a0)), (1, .int a1), (2, .int a2), (3, .int a3)] [] := by
  unfold f_X11_draft at h
  refine v_iload_n o dX11_draft_0 rfl 1 rfl ?_
  refine v_if_lt o 25 dX11_draft_1 (by decide) (fun c1 => ?_) (fun c1 => ?_)
  · replace h := z_ip c1 h
    refine v_iconst o (-1 : Int32) dX11_draft_25 (by decide) ?_
    obtain ⟨hr, hs⟩ := Prod.mk.inj (z_some h)
    subst hr
    subst hs
    exact v_ireturn o dX11_draft_26
  · replace h := z_in c1 h
    refine v_iload_n o dX11_draft_4 rfl 1 rfl ?_
    refine v_iconst o (3 : Int32) dX11_draft_5 (by decide) ?_
    refine v_icmp_gt o 25 dX11_draft_6 (by decide) (fun c2 => ?_) (fun c2 => ?_)
    · replace h := z_ip c2 h
      refine v_iconst o (-1 : Int32) dX11_draft_25 (by decide) ?_
      obtain ⟨hr, hs⟩ := Prod.mk.inj (z_some h)
      subst hr
      subst hs
      exact v_ireturn o dX11_draft_26
    · replace h := z_in c2 h
      refine v_iload_n o dX11_draft_9 rfl 2 rfl ?_
      refine v_iconst o (1 : Int32) dX11_draft_10 (by decide) ?_
      refine v_icmp_lt o 25 dX11_draft_11 (by decide) (fun c3 => ?_) (fun c3 => ?_)
      · replace h := z_ip c3 h
        refine v_iconst o (-1 : Int32) dX11_draft_25 (by decide) ?_
        obtain ⟨hr, hs⟩ := Prod.mk.inj (z_some h)
        subst hr
        subst hs
        exact v_ireturn o dX11_draft_26
      · replace h := z_in c3 h
        refine v_iload_n o dX11_draft_14 rfl 2 rfl ?_
        refine v_ldcw o ln_7_51 dX11_draft_15 ?_
        refine v_icmp_gt o 25 dX11_draft_18 (by decide) (fun c4 => ?_) (fun c4 => ?_)
        · replace h := z_ip c4 h
          refine v_iconst o (-1 : Int32) dX11_draft_25 (by decide) ?_
          obtain ⟨hr, hs⟩ := Prod.mk.inj (z_some h)
          subst hr
          subst hs
          exact v_ireturn o dX11_draft_26
        · replace h := z_in c4 h
          refine v_iload_n o dX11_draft_21 rfl 3 rfl ?_
          refine v_if_ge o 27 dX11_draft_22 (by decide) (fun c5 => ?_) (fun c5 => ?_)
          · replace h := z_ip c5 h
            refine v_aload_n o dX11_draft_27 rfl 0 rfl ?_
            refine v_iload_n o dX11_draft_28 rfl 1 rfl ?_
            refine pt_11_70 o hK0 ln_5_165 dX11_draft_29 ?_
            refine v_aload_n o dX11_draft_32 rfl 0 rfl ?_
            refine v_iconst o (0 : Int32) dX11_draft_33 (by decide) ?_
            refine pt_11_71 o hK0 ln_5_166 dX11_draft_34 ?_
            refine v_aload_n o dX11_draft_37 rfl 0 rfl ?_
            refine v_iconst o (0 : Int32) dX11_draft_38 (by decide) ?_
            refine pt_11_72 o hK0 ln_5_167 dX11_draft_39 ?_
            refine v_aload_n o dX11_draft_42 rfl 0 rfl ?_
            refine v_iload_n o dX11_draft_43 rfl 2 rfl ?_
            refine v_i2l o dX11_draft_44 ?_
            refine v_iconst o (2 : Int32) dX11_draft_45 (by decide) ?_
            obtain ⟨D7, he6, h⟩ := z_bind h
            refine v_callV o yw_X11_draftPut ln_7_64 wi_X11_draftPut ws_X11_draftPut hX (by decide) 11 rfl hK0 (As := [.long (a2).toInt64, .int (2 : Int32)]) rfl rfl (Nat.le_of_ble_eq_true rfl) (e_X11_draftPut hK0 he6) dX11_draft_46 ?_
            refine v_aload_n o dX11_draft_49 rfl 0 rfl ?_
            refine v_iload_n o dX11_draft_50 rfl 3 rfl ?_
            refine v_i2l o dX11_draft_51 ?_
            refine v_iconst o (4 : Int32) dX11_draft_52 (by decide) ?_
            obtain ⟨D9, he8, h⟩ := z_bind h
            refine v_callV o yw_X11_draftPut ln_7_64 wi_X11_draftPut ws_X11_draftPut hX (by decide) 11 rfl hK0 (As := [.long (a3).toInt64, .int (4 : Int32)]) rfl rfl (Nat.le_of_ble_eq_true rfl) (e_X11_draftPut hK0 he8) dX11_draft_53 ?_
            refine v_iload_n o dX11_draft_56 rfl 1 rfl ?_
            refine v_if_ne o 118 dX11_draft_57 (by decide) (fun c10 => ?_) (fun c10 => ?_)
            · replace h := z_in c10 h
              refine v_iload_n o dX11_draft_118 rfl 1 rfl ?_
              refine v_iconst o (3 : Int32) dX11_draft_119 (by decide) ?_
              refine v_icmp_ne o 231 dX11_draft_120 (by decide) (fun c11 => ?_) (fun c11 => ?_)
              · replace h := z_in c11 h
                refine v_aload_n o dX11_draft_231 rfl 0 rfl ?_
                refine v_aload_n o dX11_draft_232 rfl 0 rfl ?_
                obtain ⟨n12, h⟩ := z_gK_of h
                refine gt_11_73 o hK0 ln_5_168 (by rw [n12]; decide) dX11_draft_233 ?_
                refine v_iload_n o dX11_draft_236 rfl 1 rfl ?_
                refine v_iconst o (1 : Int32) dX11_draft_237 (by decide) ?_
                refine v_iadd o dX11_draft_238 ?_
                obtain ⟨n13, n14, h⟩ := z_gA_of h
                refine v_iald o n13 n14 dX11_draft_239 ?_
                refine v_i2l o dX11_draft_240 ?_
                refine v_iconst o (2 : Int32) dX11_draft_241 (by decide) ?_
                obtain ⟨D16, he15, h⟩ := z_bind h
                refine v_callV o yw_X11_draftPut ln_7_64 wi_X11_draftPut ws_X11_draftPut hX (by decide) 11 rfl hK0 (As := [.long ((z_U D9 (z_R G 1173 a0) ((a1 + (1 : Int32))).toNatClampNeg)).toInt64, .int (2 : Int32)]) rfl rfl (Nat.le_of_ble_eq_true rfl) (e_X11_draftPut hK0 he15) dX11_draft_242 ?_
                refine v_aload_n o dX11_draft_245 rfl 0 rfl ?_
                refine v_aload_n o dX11_draft_246 rfl 0 rfl ?_
                obtain ⟨n17, h⟩ := z_gK_of h
                refine gt_11_74 o hK0 ln_5_169 (by rw [n17]; decide) dX11_draft_247 ?_
                refine v_iload_n o dX11_draft_250 rfl 1 rfl ?_
                refine v_iconst o (1 : Int32) dX11_draft_251 (by decide) ?_
                refine v_iadd o dX11_draft_252 ?_
                obtain ⟨n18, n19, h⟩ := z_gA_of h
                refine v_lald o n18 n19 dX11_draft_253 ?_
                refine v_bipush o (8 : Int32) dX11_draft_254 (by decide) ?_
                obtain ⟨D21, he20, h⟩ := z_bind h
                refine v_callV o yw_X11_draftPut ln_7_64 wi_X11_draftPut ws_X11_draftPut hX (by decide) 11 rfl hK0 (As := [.long (z_Y D16 (z_R G 1174 a0) ((a1 + (1 : Int32))).toNatClampNeg), .int (8 : Int32)]) rfl rfl (Nat.le_of_ble_eq_true rfl) (e_X11_draftPut hK0 he20) dX11_draft_256 ?_
                refine v_sub [0, 1, 2] rfl ?_
                exact tj_X11_draft_259 o hX hK0 h
              · replace h := z_ip c11 h
                refine v_aload_n o dX11_draft_123 rfl 0 rfl ?_
                refine v_aload_n o dX11_draft_124 rfl 0 rfl ?_
                refine gt_11_65 o hK0 ln_5_160 dX11_draft_125 ?_
                refine v_i2l o dX11_draft_128 ?_
                refine v_iconst o (1 : Int32) dX11_draft_129 (by decide) ?_
                obtain ⟨D32, he31, h⟩ := z_bind h
                refine v_callV o yw_X11_draftPut ln_7_64 wi_X11_draftPut ws_X11_draftPut hX (by decide) 11 rfl hK0 (As := [.long ((z_I D9 1165 a0)).toInt64, .int (1 : Int32)]) rfl rfl (Nat.le_of_ble_eq_true rfl) (e_X11_draftPut hK0 he31) dX11_draft_130 ?_
                refine v_iconst o (0 : Int32) dX11_draft_133 (by decide) ?_
                refine v_istore o [(4, .int (0 : Int32)), (0, .ref (z_w q a0)), (1, .int a1), (2, .int a2), (3, .int a3)] dX11_draft_134 (by decide) rfl ?_
                refine v_sub [1, 2, 3, 0] rfl ?_
                obtain ⟨e58, he59, h⟩ := z_bind h
                refine z_loopV (P := p_X11_draft_136 q X _ G a0 a1 a2) (E := x_X11_draft_136 q X _ G a0 a1 a2) (fun v ρ hb hk => tc_X11_draft_136 (D := v.1) (a0 := a0) (a1 := a1) (a2 := a2) (a4 := v.2) o hX hK0 hb hk) 4000 _ e58 he59 ?_
                show z_V q X 7 _ _ _ G e58 228 [(0, .ref (z_w q a0)), (1, .int a1), (2, .int a2)] []
                refine v_goto o 259 dX11_draft_228 (by decide) ?_
                exact tj_X11_draft_259 o hX hK0 h
            · replace h := z_ip c10 h
              refine v_iconst o (0 : Int32) dX11_draft_60 (by decide) ?_
              refine v_istore o [(4, .int (0 : Int32)), (0, .ref (z_w q a0)), (1, .int a1), (2, .int a2), (3, .int a3)] dX11_draft_61 (by decide) rfl ?_
              refine v_sub [1, 2, 3, 0] rfl ?_
              obtain ⟨e77, he78, h⟩ := z_bind h
              refine z_loopV (P := p_X11_draft_63 q X _ G a0 a1 a2) (E := x_X11_draft_63 q X _ G a0 a1 a2) (fun v ρ hb hk => tc_X11_draft_63 (D := v.1) (a0 := a0) (a1 := a1) (a2 := a2) (a4 := v.2) o hX hK0 hb hk) 4000 _ e77 he78 ?_
              show z_V q X 7 _ _ _ G e77 115 [(0, .ref (z_w q a0)), (1, .int a1), (2, .int a2)] []
              refine v_goto o 259 dX11_draft_115 (by decide) ?_
              exact tj_X11_draft_259 o hX hK0 h
          · replace h := z_in c5 h
            refine v_iconst o (-1 : Int32) dX11_draft_25 (by decide) ?_
            obtain ⟨hr, hs⟩ := Prod.mk.inj (z_some h)
            subst hr
            subst hs
            exact v_ireturn o dX11_draft_26
theorem e_X11_draft {q : z_Q} {l : Launch} {G : z_G} {D : z_D} {a0 : Nat} {a1 : Int32} {a2 : Int32} {a3 : Int32} {r : Int32} {D1 : z_D} (hK0 : z_K G a0 = 111) (h : f_X11_draft G D a0 a1 a2 a3 = some (r, D1)) : z_E q l yX11_draft cX11_draft 7 (some .int) 2 0 0 [.ref (z_w q a0), .int a1, .int a2, .int a3] G D (some (.int r)) G D1 :=
  z_E.of (by decide) (Nat.le_of_ble_eq_true rfl) (fun X hX _ o => b_X11_draft o hX hK0 h)
def j_X11_sign_78 (G : z_G) (D : z_D) (a0 : Nat) (a1 : Int32)  : Option (Int32 × z_D) :=
  (f_X11_many G (z_sI D 1172 a0 ((z_I D 1172 a0) ||| ((1 : Int32) <<< (a1 &&& 31)))) (z_I (z_sI D 1172 a0 ((z_I D 1172 a0) ||| ((1 : Int32) <<< (a1 &&& 31)))) 1172 a0)).bind (fun r10 => ((some (r10, (z_sI D 1172 a0 ((z_I D 1172 a0) ||| ((1 : Int32) <<< (a1 &&& 31))))))))
set_option maxRecDepth 100000 in
set_option maxHeartbeats 4000000 in
theorem tj_X11_sign_78 {q : z_Q} {X : z_X} {G : z_G} {D : z_D} {a0 : Nat} {a1 : Int32}  {r : Int32} {D1 : z_D} (o : z_O q X cX11_sign 4 "FlashTrustModel" "sign" (some .int)) (hX : x_R X = z_rm 2 0 0) (hK0 : z_K G a0 = 111) (h : j_X11_sign_78 G D a0 a1  = some (r, D1)) : z_V q X 4 (z_F q X (some (.int r)) G D1 0 0) 0 0 G D 78 [(0, .ref (z_w q a0)), (1, .int a1)] [] := by
  unfold j_X11_sign_78 at h
  refine v_aload_n o dX11_sign_78 rfl 0 rfl ?_
  refine v_dup o dX11_sign_79 rfl ?_
  refine gt_11_72 o hK0 ln_5_167 dX11_sign_80 ?_
  refine v_iconst o (1 : Int32) dX11_sign_83 (by decide) ?_
  refine v_iload_n o dX11_sign_84 rfl 1 rfl ?_
  refine v_ishl o dX11_sign_85 ?_
  refine v_ior o dX11_sign_86 ?_
  refine pt_11_72 o hK0 ln_5_167 dX11_sign_87 ?_
  refine v_aload_n o dX11_sign_90 rfl 0 rfl ?_
  refine gt_11_72 o hK0 ln_5_167 dX11_sign_91 ?_
  obtain ⟨r10, he9, h⟩ := z_bind h
  refine v_callS o yw_X11_many ln_7_68 ws_X11_many hX (by decide) (As := [.int (z_I (z_sI D 1172 a0 ((z_I D 1172 a0) ||| ((1 : Int32) <<< (a1 &&& 31)))) 1172 a0)]) rfl rfl (Nat.le_of_ble_eq_true rfl) (e_X11_many he9) dX11_sign_94 ?_
  obtain ⟨hr, hs⟩ := Prod.mk.inj (z_some h)
  subst hr
  subst hs
  exact v_ireturn o dX11_sign_97
def f_X11_sign (G : z_G) (D : z_D) (a0 : Nat) (a1 : Int32) : Option (Int32 × z_D) :=
  (if (z_I D 1170 a0) = (-2 : Int32) then ((some ((-1 : Int32), D))) else ((if a1 < (0 : Int32) then ((some ((-1 : Int32), D))) else ((if a1 ≤ (15 : Int32) then ((f_X11_draftDigest G D a0).bind (fun p5 => ((f_X11_hasSigned G p5.2 a0 a1 p5.1).bind (fun r7 => ((if r7 = (0 : Int32) then ((if (z_I p5.2 1143 a0) = (400 : Int32) then ((some ((-5 : Int32), p5.2))) else (z_gK G 1 (z_R G 1141 a0) (z_gA G 1 (z_R G 1141 a0) (z_I p5.2 1143 a0) (z_gK G 2 (z_R G 1142 a0) (z_gA G 2 (z_R G 1142 a0) (z_I (z_sU p5.2 (z_R G 1141 a0) ((z_I p5.2 1143 a0)).toNatClampNeg a1) 1143 a0) ((j_X11_sign_78 G (z_sI (z_sY (z_sU p5.2 (z_R G 1141 a0) ((z_I p5.2 1143 a0)).toNatClampNeg a1) (z_R G 1142 a0) ((z_I (z_sU p5.2 (z_R G 1141 a0) ((z_I p5.2 1143 a0)).toNatClampNeg a1) 1143 a0)).toNatClampNeg p5.1) 1143 a0 ((z_I (z_sY (z_sU p5.2 (z_R G 1141 a0) ((z_I p5.2 1143 a0)).toNatClampNeg a1) (z_R G 1142 a0) ((z_I (z_sU p5.2 (z_R G 1141 a0) ((z_I p5.2 1143 a0)).toNatClampNeg a1) 1143 a0)).toNatClampNeg p5.1) 1143 a0) + (1 : Int32)))  a0 a1)))))))) else (j_X11_sign_78 G p5.2  a0 a1))))))) else ((some ((-1 : Int32), D))))))))
set_option maxRecDepth 100000 in
set_option maxHeartbeats 4000000 in
theorem b_X11_sign {q : z_Q} {X : z_X} {G : z_G} {D : z_D} {a0 : Nat} {a1 : Int32} {r : Int32} {D1 : z_D} (o : z_O q X cX11_sign 4 "FlashTrustModel" "sign" (some .int)) (hX : x_R X = z_rm 2 0 0) (hK0 : z_K G a0 = 111) (h : f_X11_sign G D a0 a1 = some (r, D1)) : z_V q X 4 (z_F q X (some (.int r)) G D1 0 0) 0 0 G D 0 [(0, .ref (z_w q a0)), (1, .int a1)] [] := by
  unfold f_X11_sign at h
  refine v_aload_n o dX11_sign_0 rfl 0 rfl ?_
  refine gt_11_70 o hK0 ln_5_165 dX11_sign_1 ?_
  refine v_bipush o (-2 : Int32) dX11_sign_4 (by decide) ?_
  refine v_icmp_eq o 19 dX11_sign_6 (by decide) (fun c1 => ?_) (fun c1 => ?_)
  · replace h := z_ip c1 h
    refine v_iconst o (-1 : Int32) dX11_sign_19 (by decide) ?_
    obtain ⟨hr, hs⟩ := Prod.mk.inj (z_some h)
    subst hr
    subst hs
    exact v_ireturn o dX11_sign_20
  · replace h := z_in c1 h
    refine v_iload_n o dX11_sign_9 rfl 1 rfl ?_
    refine v_if_lt o 19 dX11_sign_10 (by decide) (fun c2 => ?_) (fun c2 => ?_)
    · replace h := z_ip c2 h
      refine v_iconst o (-1 : Int32) dX11_sign_19 (by decide) ?_
      obtain ⟨hr, hs⟩ := Prod.mk.inj (z_some h)
      subst hr
      subst hs
      exact v_ireturn o dX11_sign_20
    · replace h := z_in c2 h
      refine v_iload_n o dX11_sign_13 rfl 1 rfl ?_
      refine v_bipush o (15 : Int32) dX11_sign_14 (by decide) ?_
      refine v_icmp_le o 21 dX11_sign_16 (by decide) (fun c3 => ?_) (fun c3 => ?_)
      · replace h := z_ip c3 h
        refine v_aload_n o dX11_sign_21 rfl 0 rfl ?_
        obtain ⟨p5, he4, h⟩ := z_bind h
        refine v_callV o yw_X11_draftDigest ln_7_79 wi_X11_draftDigest ws_X11_draftDigest hX (by decide) 11 rfl hK0 (As := []) rfl rfl (Nat.le_of_ble_eq_true rfl) (e_X11_draftDigest hK0 he4) dX11_sign_22 ?_
        refine v_lstore_n o [(2, .long p5.1), (0, .ref (z_w q a0)), (1, .int a1)] dX11_sign_25 rfl (by decide) rfl ?_
        refine v_aload_n o dX11_sign_26 rfl 1 rfl ?_
        refine v_iload_n o dX11_sign_27 rfl 2 rfl ?_
        refine v_lload_n o dX11_sign_28 rfl 0 rfl ?_
        obtain ⟨r7, he6, h⟩ := z_bind h
        refine v_callV o yw_X11_hasSigned ln_6_195 wi_X11_hasSigned ws_X11_hasSigned hX (by decide) 11 rfl hK0 (As := [.int a1, .long p5.1]) rfl rfl (Nat.le_of_ble_eq_true rfl) (e_X11_hasSigned hK0 he6) dX11_sign_29 ?_
        refine v_if_ne o 78 dX11_sign_32 (by decide) (fun c8 => ?_) (fun c8 => ?_)
        · replace h := z_in c8 h
          refine v_sub [1, 2] rfl ?_
          exact tj_X11_sign_78 o hX hK0 h
        · replace h := z_ip c8 h
          refine v_aload_n o dX11_sign_35 rfl 1 rfl ?_
          refine gt_11_43 o hK0 ln_5_138 dX11_sign_36 ?_
          refine v_sipush o (400 : Int32) dX11_sign_39 (by decide) ?_
          refine v_icmp_ne o 48 dX11_sign_42 (by decide) (fun c11 => ?_) (fun c11 => ?_)
          · replace h := z_in c11 h
            refine v_aload_n o dX11_sign_48 rfl 1 rfl ?_
            obtain ⟨n12, h⟩ := z_gK_of h
            refine gt_11_41 o hK0 ln_5_136 (by rw [n12]; decide) dX11_sign_49 ?_
            refine v_aload_n o dX11_sign_52 rfl 1 rfl ?_
            refine gt_11_43 o hK0 ln_5_138 dX11_sign_53 ?_
            refine v_iload_n o dX11_sign_56 rfl 2 rfl ?_
            obtain ⟨n13, n14, h⟩ := z_gA_of h
            refine v_iast o n13 n14 dX11_sign_57 ?_
            refine v_aload_n o dX11_sign_58 rfl 1 rfl ?_
            obtain ⟨n15, h⟩ := z_gK_of h
            refine gt_11_42 o hK0 ln_5_137 (by rw [n15]; decide) dX11_sign_59 ?_
            refine v_aload_n o dX11_sign_62 rfl 1 rfl ?_
            refine gt_11_43 o hK0 ln_5_138 dX11_sign_63 ?_
            refine v_lload_n o dX11_sign_66 rfl 0 rfl ?_
            obtain ⟨n16, n17, h⟩ := z_gA_of h
            refine v_last o n16 n17 dX11_sign_67 ?_
            refine v_aload_n o dX11_sign_68 rfl 1 rfl ?_
            refine v_dup o dX11_sign_69 rfl ?_
            refine gt_11_43 o hK0 ln_5_138 dX11_sign_70 ?_
            refine v_iconst o (1 : Int32) dX11_sign_73 (by decide) ?_
            refine v_iadd o dX11_sign_74 ?_
            refine pt_11_43 o hK0 ln_5_138 dX11_sign_75 ?_
            refine v_sub [1, 2] rfl ?_
            exact tj_X11_sign_78 o hX hK0 h
          · replace h := z_ip c11 h
            refine v_bipush o (-5 : Int32) dX11_sign_45 (by decide) ?_
            obtain ⟨hr, hs⟩ := Prod.mk.inj (z_some h)
            subst hr
            subst hs
            exact v_ireturn o dX11_sign_47
      · replace h := z_in c3 h
        refine v_iconst o (-1 : Int32) dX11_sign_19 (by decide) ?_
        obtain ⟨hr, hs⟩ := Prod.mk.inj (z_some h)
        subst hr
        subst hs
        exact v_ireturn o dX11_sign_20
theorem e_X11_sign {q : z_Q} {l : Launch} {G : z_G} {D : z_D} {a0 : Nat} {a1 : Int32} {r : Int32} {D1 : z_D} (hK0 : z_K G a0 = 111) (h : f_X11_sign G D a0 a1 = some (r, D1)) : z_E q l yX11_sign cX11_sign 4 (some .int) 2 0 0 [.ref (z_w q a0), .int a1] G D (some (.int r)) G D1 :=
  z_E.of (by decide) (Nat.le_of_ble_eq_true rfl) (fun X hX _ o => b_X11_sign o hX hK0 h)
def p_X11_show_55 (q : z_Q) (X : z_X) (Q : State → Prop) (G : z_G) (a0 : Nat) : (z_D × Int32) → Prop := (fun v => z_V q X 2 Q 0 0 G v.1 55 [(0, .ref (z_w q a0)), (1, .int v.2)] [])
def x_X11_show_55 (q : z_Q) (X : z_X) (Q : State → Prop) (G : z_G) (a0 : Nat) : z_D → Prop := (fun v => z_V q X 2 Q 0 0 G v 83 [(0, .ref (z_w q a0))] [])
def k_X11_show_55 (q : z_Q) (X : z_X) (Q : State → Prop) (G : z_G) (a0 : Nat) : (z_D × Int32) ⊕ z_D → Prop := Sum.elim (p_X11_show_55 q X Q G a0) (x_X11_show_55 q X Q G a0)
def c_X11_show_55 (G : z_G) (D : z_D) (a0 : Nat) (a1 : Int32) : Option ((z_D × Int32) ⊕ z_D) :=
  (if (z_I D 1171 a0) ≤ a1 then (some (.inr D)) else (z_gK G 1 (z_R G 1111 a0) (z_gK G 1 (z_R G 1169 a0) (z_gA G 1 (z_R G 1169 a0) a1 (z_gA G 1 (z_R G 1111 a0) ((3 : Int32) + a1) ((some (.inl ((z_sU D (z_R G 1111 a0) (((3 : Int32) + a1)).toNatClampNeg (z_U D (z_R G 1169 a0) (a1).toNatClampNeg)), (a1 + (1 : Int32)))))))))))
set_option maxRecDepth 100000 in
set_option maxHeartbeats 4000000 in
theorem tc_X11_show_55 {q : z_Q} {X : z_X} {G : z_G} {D : z_D} {Q : State → Prop} {a0 : Nat} {a1 : Int32} (o : z_O q X cX11_show 2 "FlashTrustModel" "show" (some .int)) (hX : x_R X = z_rm 1 0 0) (hK0 : z_K G a0 = 111) {ρ : (z_D × Int32) ⊕ z_D} (h : c_X11_show_55 G D a0 a1 = some ρ) (hk : k_X11_show_55 q X Q G a0 ρ) : z_V q X 2 Q 0 0 G D 55 [(0, .ref (z_w q a0)), (1, .int a1)] [] := by
  unfold c_X11_show_55 at h
  refine v_iload_n o dX11_show_55 rfl 1 rfl ?_
  refine v_aload_n o dX11_show_56 rfl 0 rfl ?_
  refine gt_11_71 o hK0 ln_5_166 dX11_show_57 ?_
  refine v_icmp_ge o 83 dX11_show_60 (by decide) (fun c9 => ?_) (fun c9 => ?_)
  · replace h := z_ip c9 h
    obtain rfl := z_some h
    refine v_sub [0] rfl ?_
    exact hk
  · replace h := z_in c9 h
    refine v_aload_n o dX11_show_63 rfl 0 rfl ?_
    obtain ⟨n10, h⟩ := z_gK_of h
    refine gt_11_11 o hK0 ln_5_106 (by rw [n10]; decide) dX11_show_64 ?_
    refine v_iconst o (3 : Int32) dX11_show_67 (by decide) ?_
    refine v_iload_n o dX11_show_68 rfl 1 rfl ?_
    refine v_iadd o dX11_show_69 ?_
    refine v_aload_n o dX11_show_70 rfl 0 rfl ?_
    obtain ⟨n11, h⟩ := z_gK_of h
    refine gt_11_69 o hK0 ln_5_164 (by rw [n11]; decide) dX11_show_71 ?_
    refine v_iload_n o dX11_show_74 rfl 1 rfl ?_
    obtain ⟨n12, n13, h⟩ := z_gA_of h
    refine v_iald o n12 n13 dX11_show_75 ?_
    obtain ⟨n14, n15, h⟩ := z_gA_of h
    refine v_iast o n14 n15 dX11_show_76 ?_
    refine v_iinc o (a1 + (1 : Int32)) [(1, .int (a1 + (1 : Int32))), (0, .ref (z_w q a0))] dX11_show_77 1 rfl rfl (by decide) rfl ?_
    refine v_goto o 55 dX11_show_80 (by decide) ?_
    obtain rfl := z_some h
    refine v_sub [1, 0] rfl ?_
    exact hk
def p_X11_show_121 (q : z_Q) (X : z_X) (Q : State → Prop) (G : z_G) (a0 : Nat) : (z_D × Int32) → Prop := (fun v => z_V q X 2 Q 0 0 G v.1 121 [(0, .ref (z_w q a0)), (1, .int v.2)] [])
def x_X11_show_121 (q : z_Q) (X : z_X) (Q : State → Prop) (G : z_G) (a0 : Nat) : z_D → Prop := (fun v => z_V q X 2 Q 0 0 G v 165 [(0, .ref (z_w q a0))] [])
def k_X11_show_121 (q : z_Q) (X : z_X) (Q : State → Prop) (G : z_G) (a0 : Nat) : (z_D × Int32) ⊕ z_D → Prop := Sum.elim (p_X11_show_121 q X Q G a0) (x_X11_show_121 q X Q G a0)
def c_X11_show_121 (G : z_G) (D : z_D) (a0 : Nat) (a1 : Int32) : Option ((z_D × Int32) ⊕ z_D) :=
  (if (16 : Int32) ≤ a1 then (some (.inr D)) else ((if (((z_I D 1172 a0) >>> (a1 &&& 31)) &&& (1 : Int32)) = (1 : Int32) then (z_gK G 1 (z_R G 1111 a0) (z_gA G 1 (z_R G 1111 a0) (z_I D 1112 a0) ((some (.inl ((z_sI (z_sU D (z_R G 1111 a0) ((z_I D 1112 a0)).toNatClampNeg a1) 1112 a0 ((z_I (z_sU D (z_R G 1111 a0) ((z_I D 1112 a0)).toNatClampNeg a1) 1112 a0) + (1 : Int32))), (a1 + (1 : Int32)))))))) else ((some (.inl (D, (a1 + (1 : Int32)))))))))
set_option maxRecDepth 100000 in
set_option maxHeartbeats 4000000 in
theorem tc_X11_show_121 {q : z_Q} {X : z_X} {G : z_G} {D : z_D} {Q : State → Prop} {a0 : Nat} {a1 : Int32} (o : z_O q X cX11_show 2 "FlashTrustModel" "show" (some .int)) (hX : x_R X = z_rm 1 0 0) (hK0 : z_K G a0 = 111) {ρ : (z_D × Int32) ⊕ z_D} (h : c_X11_show_121 G D a0 a1 = some ρ) (hk : k_X11_show_121 q X Q G a0 ρ) : z_V q X 2 Q 0 0 G D 121 [(0, .ref (z_w q a0)), (1, .int a1)] [] := by
  unfold c_X11_show_121 at h
  refine v_iload_n o dX11_show_121 rfl 1 rfl ?_
  refine v_bipush o (16 : Int32) dX11_show_122 (by decide) ?_
  refine v_icmp_ge o 165 dX11_show_124 (by decide) (fun c22 => ?_) (fun c22 => ?_)
  · replace h := z_ip c22 h
    obtain rfl := z_some h
    refine v_sub [0] rfl ?_
    exact hk
  · replace h := z_in c22 h
    refine v_aload_n o dX11_show_127 rfl 0 rfl ?_
    refine gt_11_72 o hK0 ln_5_167 dX11_show_128 ?_
    refine v_iload_n o dX11_show_131 rfl 1 rfl ?_
    refine v_ishr o dX11_show_132 ?_
    refine v_iconst o (1 : Int32) dX11_show_133 (by decide) ?_
    refine v_iand o dX11_show_134 ?_
    refine v_iconst o (1 : Int32) dX11_show_135 (by decide) ?_
    refine v_icmp_ne o 159 dX11_show_136 (by decide) (fun c23 => ?_) (fun c23 => ?_)
    · replace h := z_in c23 h
      refine v_iinc o (a1 + (1 : Int32)) [(1, .int (a1 + (1 : Int32))), (0, .ref (z_w q a0))] dX11_show_159 1 rfl rfl (by decide) rfl ?_
      refine v_goto o 121 dX11_show_162 (by decide) ?_
      obtain rfl := z_some h
      refine v_sub [1, 0] rfl ?_
      exact hk
    · replace h := z_ip c23 h
      refine v_aload_n o dX11_show_139 rfl 0 rfl ?_
      obtain ⟨n24, h⟩ := z_gK_of h
      refine gt_11_11 o hK0 ln_5_106 (by rw [n24]; decide) dX11_show_140 ?_
      refine v_aload_n o dX11_show_143 rfl 0 rfl ?_
      refine gt_11_12 o hK0 ln_5_107 dX11_show_144 ?_
      refine v_iload_n o dX11_show_147 rfl 1 rfl ?_
      obtain ⟨n25, n26, h⟩ := z_gA_of h
      refine v_iast o n25 n26 dX11_show_148 ?_
      refine v_aload_n o dX11_show_149 rfl 0 rfl ?_
      refine v_dup o dX11_show_150 rfl ?_
      refine gt_11_12 o hK0 ln_5_107 dX11_show_151 ?_
      refine v_iconst o (1 : Int32) dX11_show_154 (by decide) ?_
      refine v_iadd o dX11_show_155 ?_
      refine pt_11_12 o hK0 ln_5_107 dX11_show_156 ?_
      refine v_iinc o (a1 + (1 : Int32)) [(1, .int (a1 + (1 : Int32))), (0, .ref (z_w q a0))] dX11_show_159 1 rfl rfl (by decide) rfl ?_
      refine v_goto o 121 dX11_show_162 (by decide) ?_
      obtain rfl := z_some h
      refine v_sub [1, 0] rfl ?_
      exact hk
def f_X11_show (G : z_G) (D : z_D) (a0 : Nat) : Option (Int32 × z_D) :=
  (if (z_I D 1170 a0) = (-2 : Int32) then ((some ((-1 : Int32), D))) else (z_gK G 1 (z_R G 1111 a0) (z_gA G 1 (z_R G 1111 a0) (0 : Int32) (z_gA G 1 (z_R G 1111 a0) (1 : Int32) (z_gA G 1 (z_R G 1111 a0) (2 : Int32) (((z_loop (fun v => c_X11_show_55 G v.1 a0 v.2) 4000 ((z_sU (z_sU (z_sU (z_sI D 1112 a0 (0 : Int32)) (z_R G 1111 a0) ((0 : Int32)).toNatClampNeg (z_I (z_sI D 1112 a0 (0 : Int32)) 1170 a0)) (z_R G 1111 a0) ((1 : Int32)).toNatClampNeg ((z_I (z_sU (z_sI D 1112 a0 (0 : Int32)) (z_R G 1111 a0) ((0 : Int32)).toNatClampNeg (z_I (z_sI D 1112 a0 (0 : Int32)) 1170 a0)) 1171 a0) >>> ((8 : Int32) &&& 31))) (z_R G 1111 a0) ((2 : Int32)).toNatClampNeg ((z_I (z_sU (z_sU (z_sI D 1112 a0 (0 : Int32)) (z_R G 1111 a0) ((0 : Int32)).toNatClampNeg (z_I (z_sI D 1112 a0 (0 : Int32)) 1170 a0)) (z_R G 1111 a0) ((1 : Int32)).toNatClampNeg ((z_I (z_sU (z_sI D 1112 a0 (0 : Int32)) (z_R G 1111 a0) ((0 : Int32)).toNatClampNeg (z_I (z_sI D 1112 a0 (0 : Int32)) 1170 a0)) 1171 a0) >>> ((8 : Int32) &&& 31))) 1171 a0) &&& (255 : Int32))), (0 : Int32))).bind (fun e16 => (f_X11_many G (z_sI e16 1112 a0 ((3 : Int32) + (z_I e16 1171 a0))) (z_I (z_sI e16 1112 a0 ((3 : Int32) + (z_I e16 1171 a0))) 1172 a0)).bind (fun r19 => (z_gA G 1 (z_R G 1111 a0) (z_I (z_sI e16 1112 a0 ((3 : Int32) + (z_I e16 1171 a0))) 1112 a0) (((z_loop (fun v => c_X11_show_121 G v.1 a0 v.2) 4000 ((z_sI (z_sU (z_sI e16 1112 a0 ((3 : Int32) + (z_I e16 1171 a0))) (z_R G 1111 a0) ((z_I (z_sI e16 1112 a0 ((3 : Int32) + (z_I e16 1171 a0))) 1112 a0)).toNatClampNeg r19) 1112 a0 ((z_I (z_sU (z_sI e16 1112 a0 ((3 : Int32) + (z_I e16 1171 a0))) (z_R G 1111 a0) ((z_I (z_sI e16 1112 a0 ((3 : Int32) + (z_I e16 1171 a0))) 1112 a0)).toNatClampNeg r19) 1112 a0) + (1 : Int32))), (0 : Int32))).bind (fun e27 => (some ((z_I e27 1112 a0), e27)))))))))))))))
set_option maxRecDepth 100000 in
set_option maxHeartbeats 4000000 in
theorem b_X11_show {q : z_Q} {X : z_X} {G : z_G} {D : z_D} {a0 : Nat} {r : Int32} {D1 : z_D} (o : z_O q X cX11_show 2 "FlashTrustModel" "show" (some .int)) (hX : x_R X = z_rm 1 0 0) (hK0 : z_K G a0 = 111) (h : f_X11_show G D a0 = some (r, D1)) : z_V q X 2 (z_F q X (some (.int r)) G D1 0 0) 0 0 G D 0 [(0, .ref (z_w q a0))] [] := by
  unfold f_X11_show at h
  refine v_aload_n o dX11_show_0 rfl 0 rfl ?_
  refine gt_11_70 o hK0 ln_5_165 dX11_show_1 ?_
  refine v_bipush o (-2 : Int32) dX11_show_4 (by decide) ?_
  refine v_icmp_ne o 11 dX11_show_6 (by decide) (fun c1 => ?_) (fun c1 => ?_)
  · replace h := z_in c1 h
    refine v_aload_n o dX11_show_11 rfl 0 rfl ?_
    refine v_iconst o (0 : Int32) dX11_show_12 (by decide) ?_
    refine pt_11_12 o hK0 ln_5_107 dX11_show_13 ?_
    refine v_aload_n o dX11_show_16 rfl 0 rfl ?_
    obtain ⟨n2, h⟩ := z_gK_of h
    refine gt_11_11 o hK0 ln_5_106 (by rw [n2]; decide) dX11_show_17 ?_
    refine v_iconst o (0 : Int32) dX11_show_20 (by decide) ?_
    refine v_aload_n o dX11_show_21 rfl 0 rfl ?_
    refine gt_11_70 o hK0 ln_5_165 dX11_show_22 ?_
    obtain ⟨n3, n4, h⟩ := z_gA_of h
    refine v_iast o n3 n4 dX11_show_25 ?_
    refine v_aload_n o dX11_show_26 rfl 0 rfl ?_
    refine gt_11_11 o hK0 ln_5_106 (by rw [n2]; decide) dX11_show_27 ?_
    refine v_iconst o (1 : Int32) dX11_show_30 (by decide) ?_
    refine v_aload_n o dX11_show_31 rfl 0 rfl ?_
    refine gt_11_71 o hK0 ln_5_166 dX11_show_32 ?_
    refine v_bipush o (8 : Int32) dX11_show_35 (by decide) ?_
    refine v_ishr o dX11_show_37 ?_
    obtain ⟨n5, n6, h⟩ := z_gA_of h
    refine v_iast o n5 n6 dX11_show_38 ?_
    refine v_aload_n o dX11_show_39 rfl 0 rfl ?_
    refine gt_11_11 o hK0 ln_5_106 (by rw [n2]; decide) dX11_show_40 ?_
    refine v_iconst o (2 : Int32) dX11_show_43 (by decide) ?_
    refine v_aload_n o dX11_show_44 rfl 0 rfl ?_
    refine gt_11_71 o hK0 ln_5_166 dX11_show_45 ?_
    refine v_sipush o (255 : Int32) dX11_show_48 (by decide) ?_
    refine v_iand o dX11_show_51 ?_
    obtain ⟨n7, n8, h⟩ := z_gA_of h
    refine v_iast o n7 n8 dX11_show_52 ?_
    refine v_iconst o (0 : Int32) dX11_show_53 (by decide) ?_
    refine v_istore_n o [(1, .int (0 : Int32)), (0, .ref (z_w q a0))] dX11_show_54 rfl (by decide) rfl ?_
    refine v_sub [1, 0] rfl ?_
    obtain ⟨e16, he17, h⟩ := z_bind h
    refine z_loopV (P := p_X11_show_55 q X _ G a0) (E := x_X11_show_55 q X _ G a0) (fun v ρ hb hk => tc_X11_show_55 (D := v.1) (a0 := a0) (a1 := v.2) o hX hK0 hb hk) 4000 _ e16 he17 ?_
    show z_V q X 2 _ _ _ G e16 83 [(0, .ref (z_w q a0))] []
    refine v_aload_n o dX11_show_83 rfl 0 rfl ?_
    refine v_iconst o (3 : Int32) dX11_show_84 (by decide) ?_
    refine v_aload_n o dX11_show_85 rfl 0 rfl ?_
    refine gt_11_71 o hK0 ln_5_166 dX11_show_86 ?_
    refine v_iadd o dX11_show_89 ?_
    refine pt_11_12 o hK0 ln_5_107 dX11_show_90 ?_
    refine v_aload_n o dX11_show_93 rfl 0 rfl ?_
    refine gt_11_11 o hK0 ln_5_106 (by rw [n2]; decide) dX11_show_94 ?_
    refine v_aload_n o dX11_show_97 rfl 0 rfl ?_
    refine gt_11_12 o hK0 ln_5_107 dX11_show_98 ?_
    refine v_aload_n o dX11_show_101 rfl 0 rfl ?_
    refine gt_11_72 o hK0 ln_5_167 dX11_show_102 ?_
    obtain ⟨r19, he18, h⟩ := z_bind h
    refine v_callS o yw_X11_many ln_7_68 ws_X11_many hX (by decide) (As := [.int (z_I (z_sI e16 1112 a0 ((3 : Int32) + (z_I e16 1171 a0))) 1172 a0)]) rfl rfl (Nat.le_of_ble_eq_true rfl) (e_X11_many he18) dX11_show_105 ?_
    obtain ⟨n20, n21, h⟩ := z_gA_of h
    refine v_iast o n20 n21 dX11_show_108 ?_
    refine v_aload_n o dX11_show_109 rfl 0 rfl ?_
    refine v_dup o dX11_show_110 rfl ?_
    refine gt_11_12 o hK0 ln_5_107 dX11_show_111 ?_
    refine v_iconst o (1 : Int32) dX11_show_114 (by decide) ?_
    refine v_iadd o dX11_show_115 ?_
    refine pt_11_12 o hK0 ln_5_107 dX11_show_116 ?_
    refine v_iconst o (0 : Int32) dX11_show_119 (by decide) ?_
    refine v_istore_n o [(1, .int (0 : Int32)), (0, .ref (z_w q a0))] dX11_show_120 rfl (by decide) rfl ?_
    refine v_sub [1, 0] rfl ?_
    obtain ⟨e27, he28, h⟩ := z_bind h
    refine z_loopV (P := p_X11_show_121 q X _ G a0) (E := x_X11_show_121 q X _ G a0) (fun v ρ hb hk => tc_X11_show_121 (D := v.1) (a0 := a0) (a1 := v.2) o hX hK0 hb hk) 4000 _ e27 he28 ?_
    show z_V q X 2 _ _ _ G e27 165 [(0, .ref (z_w q a0))] []
    refine v_aload_n o dX11_show_165 rfl 0 rfl ?_
    refine gt_11_12 o hK0 ln_5_107 dX11_show_166 ?_
    obtain ⟨hr, hs⟩ := Prod.mk.inj (z_some h)
    subst hr
    subst hs
    exact v_ireturn o dX11_show_169
  · replace h := z_ip c1 h
    refine v_iconst o (-1 : Int32) dX11_show_9 (by decide) ?_
    obtain ⟨hr, hs⟩ := Prod.mk.inj (z_some h)
    subst hr
    subst hs
    exact v_ireturn o dX11_show_10
theorem e_X11_show {q : z_Q} {l : Launch} {G : z_G} {D : z_D} {a0 : Nat} {r : Int32} {D1 : z_D} (hK0 : z_K G a0 = 111) (h : f_X11_show G D a0 = some (r, D1)) : z_E q l yX11_show cX11_show 2 (some .int) 1 0 0 [.ref (z_w q a0)] G D (some (.int r)) G D1 :=
  z_E.of (by decide) (Nat.le_of_ble_eq_true rfl) (fun X hX _ o => b_X11_show o hX hK0 h)
def p_X11_piece_2 (q : z_Q) (X : z_X) (Q : State → Prop) (G : z_G) (D : z_D) (a0 : Nat) (a1 : Int32) (a2 : Int32) : Int32 → Prop := (fun v => z_V q X 6 Q 0 0 G D 2 [(0, .ref (z_w q a0)), (1, .int a1), (2, .int a2), (3, .int v)] [])
def x_X11_piece_2 (q : z_Q) (X : z_X) (Q : State → Prop) (G : z_G) (D : z_D) (a0 : Nat) (a1 : Int32) (a2 : Int32) : (Int32 ⊕ Unit) → Prop := (Sum.elim (fun v => z_V q X 6 Q 0 0 G D 41 [(0, .ref (z_w q a0)), (2, .int a2), (3, .int v)] []) (fun v => z_V q X 6 Q 0 0 G D 120 [] []))
def k_X11_piece_2 (q : z_Q) (X : z_X) (Q : State → Prop) (G : z_G) (D : z_D) (a0 : Nat) (a1 : Int32) (a2 : Int32) : Int32 ⊕ (Int32 ⊕ Unit) → Prop := Sum.elim (p_X11_piece_2 q X Q G D a0 a1 a2) (x_X11_piece_2 q X Q G D a0 a1 a2)
def c_X11_piece_2 (G : z_G) (D : z_D) (a0 : Nat) (a1 : Int32) (a2 : Int32) (a3 : Int32) : Option (Int32 ⊕ (Int32 ⊕ Unit)) :=
  (if (z_I D 1165 a0) ≤ a3 then (some (.inr (.inr ()))) else (z_gK G 1 (z_R G 1166 a0) (z_gA G 1 (z_R G 1166 a0) a3 ((if (z_U D (z_R G 1166 a0) (a3).toNatClampNeg) = a1 then ((if a2 < (0 : Int32) then ((some (.inl (a3 + (1 : Int32))))) else (z_gK G 1 (z_R G 1167 a0) (z_gA G 1 (z_R G 1167 a0) a3 ((if (0 : Int32) ≤ (lg_cmp ((64 : Int64) * (a2).toInt64) (((z_U D (z_R G 1167 a0) (a3).toNatClampNeg)).toInt64)) then ((some (.inl (a3 + (1 : Int32))))) else (some (.inr (.inl a3))))))))) else ((some (.inl (a3 + (1 : Int32))))))))))
set_option maxRecDepth 100000 in
set_option maxHeartbeats 4000000 in
theorem tc_X11_piece_2 {q : z_Q} {X : z_X} {G : z_G} {D : z_D} {Q : State → Prop} {a0 : Nat} {a1 : Int32} {a2 : Int32} {a3 : Int32} (o : z_O q X cX11_piece 6 "FlashTrustModel" "piece" (some .int)) (hX : x_R X = z_rm 1 0 0) (hK0 : z_K G a0 = 111) {ρ : Int32 ⊕ (Int32 ⊕ Unit)} (h : c_X11_piece_2 G D a0 a1 a2 a3 = some ρ) (hk : k_X11_piece_2 q X Q G D a0 a1 a2 ρ) : z_V q X 6 Q 0 0 G D 2 [(0, .ref (z_w q a0)), (1, .int a1), (2, .int a2), (3, .int a3)] [] := by
  unfold c_X11_piece_2 at h
  refine v_iload_n o dX11_piece_2 rfl 3 rfl ?_
  refine v_aload_n o dX11_piece_3 rfl 0 rfl ?_
  refine gt_11_65 o hK0 ln_5_160 dX11_piece_4 ?_
  refine v_icmp_ge o 120 dX11_piece_7 (by decide) (fun c1 => ?_) (fun c1 => ?_)
  · replace h := z_ip c1 h
    obtain rfl := z_some h
    refine v_sub [] rfl ?_
    exact hk
  · replace h := z_in c1 h
    refine v_aload_n o dX11_piece_10 rfl 0 rfl ?_
    obtain ⟨n2, h⟩ := z_gK_of h
    refine gt_11_66 o hK0 ln_5_161 (by rw [n2]; decide) dX11_piece_11 ?_
    refine v_iload_n o dX11_piece_14 rfl 3 rfl ?_
    obtain ⟨n3, n4, h⟩ := z_gA_of h
    refine v_iald o n3 n4 dX11_piece_15 ?_
    refine v_iload_n o dX11_piece_16 rfl 1 rfl ?_
    refine v_icmp_ne o 114 dX11_piece_17 (by decide) (fun c5 => ?_) (fun c5 => ?_)
    · replace h := z_in c5 h
      refine v_iinc o (a3 + (1 : Int32)) [(3, .int (a3 + (1 : Int32))), (0, .ref (z_w q a0)), (1, .int a1), (2, .int a2)] dX11_piece_114 3 rfl rfl (by decide) rfl ?_
      refine v_goto o 2 dX11_piece_117 (by decide) ?_
      obtain rfl := z_some h
      refine v_sub [1, 2, 3, 0] rfl ?_
      exact hk
    · replace h := z_ip c5 h
      refine v_iload_n o dX11_piece_20 rfl 2 rfl ?_
      refine v_if_lt o 114 dX11_piece_21 (by decide) (fun c6 => ?_) (fun c6 => ?_)
      · replace h := z_ip c6 h
        refine v_iinc o (a3 + (1 : Int32)) [(3, .int (a3 + (1 : Int32))), (0, .ref (z_w q a0)), (1, .int a1), (2, .int a2)] dX11_piece_114 3 rfl rfl (by decide) rfl ?_
        refine v_goto o 2 dX11_piece_117 (by decide) ?_
        obtain rfl := z_some h
        refine v_sub [1, 2, 3, 0] rfl ?_
        exact hk
      · replace h := z_in c6 h
        refine v_ldc2 o ln_7_95 dX11_piece_24 ?_
        refine v_iload_n o dX11_piece_27 rfl 2 rfl ?_
        refine v_i2l o dX11_piece_28 ?_
        refine v_lmul o dX11_piece_29 ?_
        refine v_aload_n o dX11_piece_30 rfl 0 rfl ?_
        obtain ⟨n7, h⟩ := z_gK_of h
        refine gt_11_67 o hK0 ln_5_162 (by rw [n7]; decide) dX11_piece_31 ?_
        refine v_iload_n o dX11_piece_34 rfl 3 rfl ?_
        obtain ⟨n8, n9, h⟩ := z_gA_of h
        refine v_iald o n8 n9 dX11_piece_35 ?_
        refine v_i2l o dX11_piece_36 ?_
        refine v_lcmp o dX11_piece_37 ?_
        refine v_if_ge o 114 dX11_piece_38 (by decide) (fun c10 => ?_) (fun c10 => ?_)
        · replace h := z_ip c10 h
          refine v_iinc o (a3 + (1 : Int32)) [(3, .int (a3 + (1 : Int32))), (0, .ref (z_w q a0)), (1, .int a1), (2, .int a2)] dX11_piece_114 3 rfl rfl (by decide) rfl ?_
          refine v_goto o 2 dX11_piece_117 (by decide) ?_
          obtain rfl := z_some h
          refine v_sub [1, 2, 3, 0] rfl ?_
          exact hk
        · replace h := z_in c10 h
          obtain rfl := z_some h
          refine v_sub [0, 2, 3] rfl ?_
          exact hk
def p_X11_piece_75 (q : z_Q) (X : z_X) (Q : State → Prop) (G : z_G) (a0 : Nat) (a2 : Int32) (a3 : Int32) : (z_D × Int32) → Prop := (fun v => z_V q X 6 Q 0 0 G v.1 75 [(0, .ref (z_w q a0)), (2, .int a2), (3, .int a3), (5, .int v.2)] [])
def x_X11_piece_75 (q : z_Q) (X : z_X) (Q : State → Prop) (G : z_G) (a0 : Nat) (a2 : Int32) (a3 : Int32) : z_D → Prop := (fun v => z_V q X 6 Q 0 0 G v 109 [(0, .ref (z_w q a0))] [])
def k_X11_piece_75 (q : z_Q) (X : z_X) (Q : State → Prop) (G : z_G) (a0 : Nat) (a2 : Int32) (a3 : Int32) : (z_D × Int32) ⊕ z_D → Prop := Sum.elim (p_X11_piece_75 q X Q G a0 a2 a3) (x_X11_piece_75 q X Q G a0 a2 a3)
def c_X11_piece_75 (G : z_G) (D : z_D) (a0 : Nat) (a2 : Int32) (a3 : Int32) (a5 : Int32) : Option ((z_D × Int32) ⊕ z_D) :=
  (if (z_I D 1112 a0) ≤ a5 then (some (.inr D)) else (z_gK G 1 (z_R G 1111 a0) ((f_X11_imageByte G D a0 a3 (((64 : Int32) * a2) + a5)).bind (fun r21 => (z_gA G 1 (z_R G 1111 a0) a5 ((some (.inl ((z_sU D (z_R G 1111 a0) (a5).toNatClampNeg r21), (a5 + (1 : Int32)))))))))))
set_option maxRecDepth 100000 in
set_option maxHeartbeats 4000000 in
theorem tc_X11_piece_75 {q : z_Q} {X : z_X} {G : z_G} {D : z_D} {Q : State → Prop} {a0 : Nat} {a2 : Int32} {a3 : Int32} {a5 : Int32} (o : z_O q X cX11_piece 6 "FlashTrustModel" "piece" (some .int)) (hX : x_R X = z_rm 1 0 0) (hK0 : z_K G a0 = 111) {ρ : (z_D × Int32) ⊕ z_D} (h : c_X11_piece_75 G D a0 a2 a3 a5 = some ρ) (hk : k_X11_piece_75 q X Q G a0 a2 a3 ρ) : z_V q X 6 Q 0 0 G D 75 [(0, .ref (z_w q a0)), (2, .int a2), (3, .int a3), (5, .int a5)] [] := by
  unfold c_X11_piece_75 at h
  refine v_iload o dX11_piece_75 3 rfl ?_
  refine v_aload_n o dX11_piece_77 rfl 0 rfl ?_
  refine gt_11_12 o hK0 ln_5_107 dX11_piece_78 ?_
  refine v_icmp_ge o 109 dX11_piece_81 (by decide) (fun c18 => ?_) (fun c18 => ?_)
  · replace h := z_ip c18 h
    obtain rfl := z_some h
    refine v_sub [0] rfl ?_
    exact hk
  · replace h := z_in c18 h
    refine v_aload_n o dX11_piece_84 rfl 0 rfl ?_
    obtain ⟨n19, h⟩ := z_gK_of h
    refine gt_11_11 o hK0 ln_5_106 (by rw [n19]; decide) dX11_piece_85 ?_
    refine v_iload o dX11_piece_88 3 rfl ?_
    refine v_aload_n o dX11_piece_90 rfl 0 rfl ?_
    refine v_iload_n o dX11_piece_91 rfl 2 rfl ?_
    refine v_bipush o (64 : Int32) dX11_piece_92 (by decide) ?_
    refine v_iload_n o dX11_piece_94 rfl 1 rfl ?_
    refine v_imul o dX11_piece_95 ?_
    refine v_iload o dX11_piece_96 3 rfl ?_
    refine v_iadd o dX11_piece_98 ?_
    obtain ⟨r21, he20, h⟩ := z_bind h
    refine v_callV o yw_X11_imageByte ln_7_75 wi_X11_imageByte ws_X11_imageByte hX (by decide) 11 rfl hK0 (As := [.int a3, .int (((64 : Int32) * a2) + a5)]) rfl rfl (Nat.le_of_ble_eq_true rfl) (e_X11_imageByte hK0 he20) dX11_piece_99 ?_
    obtain ⟨n22, n23, h⟩ := z_gA_of h
    refine v_iast o n22 n23 dX11_piece_102 ?_
    refine v_iinc o (a5 + (1 : Int32)) [(5, .int (a5 + (1 : Int32))), (0, .ref (z_w q a0)), (2, .int a2), (3, .int a3)] dX11_piece_103 3 rfl rfl (by decide) rfl ?_
    refine v_goto o 75 dX11_piece_106 (by decide) ?_
    obtain rfl := z_some h
    refine v_sub [1, 2, 3, 0] rfl ?_
    exact hk
def j_X11_piece_69 (G : z_G) (D : z_D) (a0 : Nat) (a2 : Int32) (a3 : Int32) (s0 : Int32) (s1 : Nat) : Option (Int32 × z_D) :=
  z_gK G 111 s1 (((z_loop (fun v => c_X11_piece_75 G v.1 a0 a2 a3 v.2) 4000 ((z_sI D 1112 s1 s0), (0 : Int32))).bind (fun e24 => (some ((z_I e24 1112 a0), e24)))))
set_option maxRecDepth 100000 in
set_option maxHeartbeats 4000000 in
theorem tj_X11_piece_69 {q : z_Q} {X : z_X} {G : z_G} {D : z_D} {a0 : Nat} {a2 : Int32} {a3 : Int32} {s0 : Int32} {s1 : Nat} {r : Int32} {D1 : z_D} (o : z_O q X cX11_piece 6 "FlashTrustModel" "piece" (some .int)) (hX : x_R X = z_rm 1 0 0) (hK0 : z_K G a0 = 111) (h : j_X11_piece_69 G D a0 a2 a3 s0 s1 = some (r, D1)) : z_V q X 6 (z_F q X (some (.int r)) G D1 0 0) 0 0 G D 69 [(0, .ref (z_w q a0)), (2, .int a2), (3, .int a3)] [.int s0, .ref (z_w q s1)] := by
  unfold j_X11_piece_69 at h
  obtain ⟨n17, h⟩ := z_gK_of h
  refine pt_11_12 o n17 ln_5_107 dX11_piece_69 ?_
  refine v_iconst o (0 : Int32) dX11_piece_72 (by decide) ?_
  refine v_istore o [(5, .int (0 : Int32)), (0, .ref (z_w q a0)), (2, .int a2), (3, .int a3)] dX11_piece_73 (by decide) rfl ?_
  refine v_sub [1, 2, 3, 0] rfl ?_
  obtain ⟨e24, he25, h⟩ := z_bind h
  refine z_loopV (P := p_X11_piece_75 q X _ G a0 a2 a3) (E := x_X11_piece_75 q X _ G a0 a2 a3) (fun v ρ hb hk => tc_X11_piece_75 (D := v.1) (a0 := a0) (a2 := a2) (a3 := a3) (a5 := v.2) o hX hK0 hb hk) 4000 _ e24 he25 ?_
  show z_V q X 6 _ _ _ G e24 109 [(0, .ref (z_w q a0))] []
  refine v_aload_n o dX11_piece_109 rfl 0 rfl ?_
  refine gt_11_12 o hK0 ln_5_107 dX11_piece_110 ?_
  obtain ⟨hr, hs⟩ := Prod.mk.inj (z_some h)
  subst hr
  subst hs
  exact v_ireturn o dX11_piece_113
def f_X11_piece (G : z_G) (D : z_D) (a0 : Nat) (a1 : Int32) (a2 : Int32) : Option (Int32 × z_D) :=
  ((z_loop (fun v => c_X11_piece_2 G D a0 a1 a2 v) 4000 (0 : Int32)).bind (Sum.elim (fun e11 => z_gK G 1 (z_R G 1167 a0) (z_gA G 1 (z_R G 1167 a0) e11 ((if (64 : Int32) ≤ ((z_U D (z_R G 1167 a0) (e11).toNatClampNeg) - ((64 : Int32) * a2)) then ((j_X11_piece_69 G D  a0 a2 e11 (64 : Int32) a0)) else ((j_X11_piece_69 G D  a0 a2 e11 ((z_U D (z_R G 1167 a0) (e11).toNatClampNeg) - ((64 : Int32) * a2)) a0)))))) (fun e11 => (some ((-1 : Int32), D)))))
set_option maxRecDepth 100000 in
set_option maxHeartbeats 4000000 in
theorem b_X11_piece {q : z_Q} {X : z_X} {G : z_G} {D : z_D} {a0 : Nat} {a1 : Int32} {a2 : Int32} {r : Int32} {D1 : z_D} (o : z_O q X cX11_piece 6 "FlashTrustModel" "piece" (some .int)) (hX : x_R X = z_rm 1 0 0) (hK0 : z_K G a0 = 111) (h : f_X11_piece G D a0 a1 a2 = some (r, D1)) : z_V q X 6 (z_F q X (some (.int r)) G D1 0 0) 0 0 G D 0 [(0, .ref (z_w q a0)), (1, .int a1), (2, .int a2)] [] := by
  unfold f_X11_piece at h
  refine v_iconst o (0 : Int32) dX11_piece_0 (by decide) ?_
  refine v_istore_n o [(3, .int (0 : Int32)), (0, .ref (z_w q a0)), (1, .int a1), (2, .int a2)] dX11_piece_1 rfl (by decide) rfl ?_
  refine v_sub [1, 2, 3, 0] rfl ?_
  obtain ⟨e11, he12, h⟩ := z_bind h
  refine z_loopV (P := p_X11_piece_2 q X _ G D a0 a1 a2) (E := x_X11_piece_2 q X _ G D a0 a1 a2) (fun v ρ hb hk => tc_X11_piece_2 (D := D) (a0 := a0) (a1 := a1) (a2 := a2) (a3 := v) o hX hK0 hb hk) 4000 _ e11 he12 ?_
  rcases e11 with e11 | e11
  · replace h := z_el h
    show z_V q X 6 _ _ _ G D 41 [(0, .ref (z_w q a0)), (2, .int a2), (3, .int e11)] []
    refine v_aload_n o dX11_piece_41 rfl 0 rfl ?_
    obtain ⟨n13, h⟩ := z_gK_of h
    refine gt_11_67 o hK0 ln_5_162 (by rw [n13]; decide) dX11_piece_42 ?_
    refine v_iload_n o dX11_piece_45 rfl 2 rfl ?_
    obtain ⟨n14, n15, h⟩ := z_gA_of h
    refine v_iald o n14 n15 dX11_piece_46 ?_
    refine v_bipush o (64 : Int32) dX11_piece_47 (by decide) ?_
    refine v_iload_n o dX11_piece_49 rfl 1 rfl ?_
    refine v_imul o dX11_piece_50 ?_
    refine v_isub o dX11_piece_51 ?_
    refine v_istore o [(4, .int ((z_U D (z_R G 1167 a0) (e11).toNatClampNeg) - ((64 : Int32) * a2))), (0, .ref (z_w q a0)), (2, .int a2), (3, .int e11)] dX11_piece_52 (by decide) rfl ?_
    refine v_aload_n o dX11_piece_54 rfl 1 rfl ?_
    refine v_iload o dX11_piece_55 0 rfl ?_
    refine v_bipush o (64 : Int32) dX11_piece_57 (by decide) ?_
    refine v_icmp_ge o 67 dX11_piece_59 (by decide) (fun c16 => ?_) (fun c16 => ?_)
    · replace h := z_ip c16 h
      refine v_bipush o (64 : Int32) dX11_piece_67 (by decide) ?_
      refine v_sub [1, 2, 3] rfl ?_
      exact tj_X11_piece_69 o hX hK0 h
    · replace h := z_in c16 h
      refine v_iload o dX11_piece_62 0 rfl ?_
      refine v_goto o 69 dX11_piece_64 (by decide) ?_
      refine v_sub [1, 2, 3] rfl ?_
      exact tj_X11_piece_69 o hX hK0 h
  · replace h := z_er h
    show z_V q X 6 _ _ _ G D 120 [] []
    refine v_iconst o (-1 : Int32) dX11_piece_120 (by decide) ?_
    obtain ⟨hr, hs⟩ := Prod.mk.inj (z_some h)
    subst hr
    subst hs
    exact v_ireturn o dX11_piece_121
theorem e_X11_piece {q : z_Q} {l : Launch} {G : z_G} {D : z_D} {a0 : Nat} {a1 : Int32} {a2 : Int32} {r : Int32} {D1 : z_D} (hK0 : z_K G a0 = 111) (h : f_X11_piece G D a0 a1 a2 = some (r, D1)) : z_E q l yX11_piece cX11_piece 6 (some .int) 1 0 0 [.ref (z_w q a0), .int a1, .int a2] G D (some (.int r)) G D1 :=
  z_E.of (by decide) (Nat.le_of_ble_eq_true rfl) (fun X hX _ o => b_X11_piece o hX hK0 h)
