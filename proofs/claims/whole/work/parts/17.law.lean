/-! THE CLAIM OUT OF ONE WALK OF THE LAW'S BODY. Your part is whole_start (and what it stands on); all else here is the same for every law, but numbers. -/
def R_law : String := "FlashTrustLaw"
def lw_P (b : Addr) (xs : List Int32) (args : Array Value) (s : State) : Prop := args = #[.ref b] ∧ s.IntsAt b xs ∧ xs.length ≤ 3073 ∧ (Jvm.Cond.and given_1 narrow_1).before args s = true
def lw_Q (_ : Array Value) (s : State) (o : Outcome) (t : State) : Prop := o = .returned (some (.int 1)) ∧ Framed s o t [] 600000 7302250
def lw_Z (below : List Frame) (a : Array Value) (s : State) : State → Prop := fun t => ∃ o, t.status = .running ∧ Ended t below o ∧ lw_Q a s o t
/-- the law's own end, with 1 on the stack, nothing written that was there before, its room as the claim has it -/
theorem lw_ret {p : Program} {l : Launch} {e : Env} {s : State} {m : MethodId} {below : List Frame} {meth : Method} {c : Code} {b : Nat} (hx : p.tables.exec = Jvm.exec) (hb : c.code = code) (hr : meth.sig.returnType = ret) (hlocks : meth.locks = false) {pc : Nat} {H : Heap} {ls : Array Slot} (hdg : decode code pc = .ok (.ireturn, 1)) : W p l e room_1 s m #[Value.ref b] below meth c H [] 600000 7302250 (lw_Z below #[Value.ref b] s) (F0 m pc ls [.int 1]) := by
  intro T hT X
  obtain ⟨fs, hret, hrun, hended, hW, hframe⟩ := X.leave (v := some (.int 1)) (hlocks := hlocks) (fun h => by rw [hr] at h; cases h)
  have hmeth' : T.vm.method? m = some meth := X.method'
  refine ⟨T.setFrames fs, ?_, .returned (some (.int 1)), hrun, hended, rfl, ⟨_, rfl⟩, hW, hframe⟩
  jvm_step X.here [X.here.top, hx, hb, hdg, hmeth', hr, ret, narrow_b1]
  (try refine ⟨rfl, ?_⟩); (try refine ⟨rfl, ?_⟩)
  first | (intro acts; rw [hret _ acts rfl rfl rfl]) | rw [hret _ _ rfl rfl rfl]
  exact Steps.refl _
/-- what holds at the law's entry: the machine, the code, the tables' words (any of lw_tbl by 'hts w (by decide +kernel)'), the script of L ints xs at the cell b, what the Statement gives of the start (any of its parts by flat_of_before) -/
def lw_At (p : Program) (s : State) (m : MethodId) (meth : Method) (c : Code) (b L : Nat) (xs : Nat → Int32) : Prop :=
  p.tables.exec = Jvm.exec ∧ c.code = code ∧ meth.sig.returnType = ret ∧ c.maxLocals = 4 ∧ s.vm.findClass R_law = some m.cls ∧ (∀ w ∈ lw_tbl, w.before #[Value.ref b] s = true) ∧ va_X b L xs s s.heap ∧ b < s.heap.size ∧ meth.locks = false ∧ (Jvm.Cond.and given_1 narrow_1).before #[Value.ref b] s = true
section ZL
variable {q : z_Q} {X : z_X} {cc : ByteArray} {nL : Nat} {own nm : String} {ret : Option FieldType} {Q : State → Prop} {k n : Nat} {G : z_G} {D : z_D} {pc : Nat} {lv : List (Nat × Value)} {st : List Value}
theorem v_sldP (o : z_O q X cc nL own nm ret) {a : Nat} {i : Int32} (hP : a = z_sb q) (hi : vp_in i (z_sL q)) (d : decode cc pc = .ok (.iaload, 1)) (h : z_V q X nL Q k n G D (pc + 1) lv (.int (z_sx q i.toNatClampNeg) :: st)) : z_V q X nL Q k n G D pc lv (.int i :: .ref a :: st) := by
  subst hP
  exact v_sld o hi d h
theorem v_slenP (o : z_O q X cc nL own nm ret) {a : Nat} (hP : a = z_sb q) (d : decode cc pc = .ok (.arraylength, 1)) (h : z_V q X nL Q k n G D (pc + 1) lv (.int (Int32.ofNat (z_sL q)) :: st)) : z_V q X nL Q k n G D pc lv (.ref a :: st) := by
  subst hP
  exact v_slen o d h
theorem z_lawEnd {b : Nat} (o : z_O q X cL_law nL own nm (some .boolean)) (hX : x_R X = room_1) (hP : b = z_sb q) (hb0 : z_b q = (x_s X).heap.size) (ha0 : x_a X = #[Value.ref (z_sb q)]) (hk : k ≤ 600000) (hn : n ≤ 7302250) (d : decode cL_law pc = .ok (.ireturn, 1)) : z_V q X nL (lw_Z (x_b X) (x_a X) (x_s X)) k n G D pc lv [.int 1] := by
  intro H locs ls hR hl hv
  obtain ⟨p, l, e, R, s, m, args, below, meth, c⟩ := X
  have hX : R = room_1 := hX
  have ha0 : args = #[Value.ref (z_sb q)] := ha0
  subst hX
  subst ha0
  refine va_forget (fun l1 h1 => by rw [← hb0]; exact hl l1 h1) ?_
  refine W.widen hk hn ?_
  exact lw_ret o.ex o.cd o.rt o.lk d
end ZL
def f_L_cell (q : z_Q) (G : z_G) (D : z_D) (a0 : Nat) (a1 : Int32) : Option (Int32) :=
  (if (Int32.ofNat (z_sL q)) ≤ a1 then ((some (0 : Int32))) else (z_gS (z_sL q) a1 (((some (z_sx q (a1).toNatClampNeg))))))
set_option maxRecDepth 100000 in
set_option maxHeartbeats 4000000 in
theorem b_L_cell {q : z_Q} {X : z_X} {G : z_G} {D : z_D} {a0 : Nat} {a1 : Int32} {r : Int32} (o : z_O q X cL_cell 2 "FlashTrustLaw" "cell" (some .int)) (hX : x_R X = z_rm 0 0 0) (hP : a0 = z_sb q) (h : f_L_cell q G D a0 a1 = some r) : z_V q X 2 (z_F q X (some (.int r)) G D 0 0) 0 0 G D 0 [(0, .ref a0), (1, .int a1)] [] := by
  unfold f_L_cell at h
  refine v_iload_n o dL_cell_0 rfl 1 rfl ?_
  refine v_aload_n o dL_cell_1 rfl 0 rfl ?_
  refine v_slenP o hP dL_cell_2 ?_
  refine v_icmp_ge o 12 dL_cell_3 (by decide) (fun c1 => ?_) (fun c1 => ?_)
  · replace h := z_ip c1 h
    refine v_iconst o (0 : Int32) dL_cell_12 (by decide) ?_
    have hr := z_some h
    subst hr
    exact v_ireturn o dL_cell_13
  · replace h := z_in c1 h
    refine v_aload_n o dL_cell_6 rfl 0 rfl ?_
    refine v_iload_n o dL_cell_7 rfl 1 rfl ?_
    obtain ⟨n2, h⟩ := z_gS_of h
    refine v_sldP o hP n2 dL_cell_8 ?_
    refine v_goto o 13 dL_cell_9 (by decide) ?_
    have hr := z_some h
    subst hr
    exact v_ireturn o dL_cell_13
theorem e_L_cell {q : z_Q} {l : Launch} {G : z_G} {D : z_D} {a0 : Nat} {a1 : Int32} {r : Int32} (hP : a0 = z_sb q) (h : f_L_cell q G D a0 a1 = some r) : z_E q l yL_cell cL_cell 2 (some .int) 0 0 0 [.ref a0, .int a1] G D (some (.int r)) G D :=
  z_E.of (by decide) (Nat.le_of_ble_eq_true rfl) (fun X hX _ o => b_L_cell o hX hP h)
def p_L_law_28 (q : z_Q) (X : z_X) (Q : State → Prop) (G : z_G) (a0 : Nat) (a1 : Nat) (a2 : Nat) : (z_D × Int32) → Prop := (fun v => z_V q X 4 Q 176 85433 G v.1 28 [(0, .ref a0), (1, .ref (z_w q a1)), (2, .ref (z_w q a2)), (3, .int v.2)] [])
def x_L_law_28 (q : z_Q) (X : z_X) (Q : State → Prop) (G : z_G) (a0 : Nat) (a1 : Nat) (a2 : Nat) : (z_D ⊕ (z_D ⊕ (z_D ⊕ (z_D ⊕ (z_D ⊕ (z_D ⊕ (z_D ⊕ (z_D ⊕ (z_D ⊕ (z_D ⊕ (z_D ⊕ (z_D ⊕ (z_D ⊕ (z_D ⊕ (z_D ⊕ (z_D ⊕ (z_D ⊕ (z_D ⊕ (z_D ⊕ (z_D ⊕ (z_D ⊕ (z_D ⊕ (z_D ⊕ z_D))))))))))))))))))))))) → Prop := (Sum.elim (fun v => z_V q X 4 Q 176 85433 G v 209 [] []) (Sum.elim (fun v => z_V q X 4 Q 176 85433 G v 232 [] []) (Sum.elim (fun v => z_V q X 4 Q 176 85433 G v 255 [] []) (Sum.elim (fun v => z_V q X 4 Q 176 85433 G v 298 [] []) (Sum.elim (fun v => z_V q X 4 Q 176 85433 G v 341 [] []) (Sum.elim (fun v => z_V q X 4 Q 176 85433 G v 354 [] []) (Sum.elim (fun v => z_V q X 4 Q 176 85433 G v 397 [] []) (Sum.elim (fun v => z_V q X 4 Q 176 85433 G v 420 [] []) (Sum.elim (fun v => z_V q X 4 Q 176 85433 G v 433 [] []) (Sum.elim (fun v => z_V q X 4 Q 176 85433 G v 466 [] []) (Sum.elim (fun v => z_V q X 4 Q 176 85433 G v 499 [] []) (Sum.elim (fun v => z_V q X 4 Q 176 85433 G v 522 [] []) (Sum.elim (fun v => z_V q X 4 Q 176 85433 G v 535 [] []) (Sum.elim (fun v => z_V q X 4 Q 176 85433 G v 548 [] []) (Sum.elim (fun v => z_V q X 4 Q 176 85433 G v 571 [] []) (Sum.elim (fun v => z_V q X 4 Q 176 85433 G v 584 [] []) (Sum.elim (fun v => z_V q X 4 Q 176 85433 G v 617 [] []) (Sum.elim (fun v => z_V q X 4 Q 176 85433 G v 630 [] []) (Sum.elim (fun v => z_V q X 4 Q 176 85433 G v 669 [] []) (Sum.elim (fun v => z_V q X 4 Q 176 85433 G v 692 [] []) (Sum.elim (fun v => z_V q X 4 Q 176 85433 G v 735 [] []) (Sum.elim (fun v => z_V q X 4 Q 176 85433 G v 768 [] []) (Sum.elim (fun v => z_V q X 4 Q 176 85433 G v 782 [] []) (fun v => z_V q X 4 Q 176 85433 G v 790 [] []))))))))))))))))))))))))
def k_L_law_28 (q : z_Q) (X : z_X) (Q : State → Prop) (G : z_G) (a0 : Nat) (a1 : Nat) (a2 : Nat) : (z_D × Int32) ⊕ (z_D ⊕ (z_D ⊕ (z_D ⊕ (z_D ⊕ (z_D ⊕ (z_D ⊕ (z_D ⊕ (z_D ⊕ (z_D ⊕ (z_D ⊕ (z_D ⊕ (z_D ⊕ (z_D ⊕ (z_D ⊕ (z_D ⊕ (z_D ⊕ (z_D ⊕ (z_D ⊕ (z_D ⊕ (z_D ⊕ (z_D ⊕ (z_D ⊕ (z_D ⊕ z_D))))))))))))))))))))))) → Prop := Sum.elim (p_L_law_28 q X Q G a0 a1 a2) (x_L_law_28 q X Q G a0 a1 a2)
def c_L_law_28 (q : z_Q) (G : z_G) (D : z_D) (a0 : Nat) (a1 : Nat) (a2 : Nat) (a3 : Int32) : Option ((z_D × Int32) ⊕ (z_D ⊕ (z_D ⊕ (z_D ⊕ (z_D ⊕ (z_D ⊕ (z_D ⊕ (z_D ⊕ (z_D ⊕ (z_D ⊕ (z_D ⊕ (z_D ⊕ (z_D ⊕ (z_D ⊕ (z_D ⊕ (z_D ⊕ (z_D ⊕ (z_D ⊕ (z_D ⊕ (z_D ⊕ (z_D ⊕ (z_D ⊕ (z_D ⊕ (z_D ⊕ z_D)))))))))))))))))))))))) :=
  (if ((Int32.ofNat (z_sL q)) - (6 : Int32)) < a3 then (some (.inr (.inr (.inr (.inr (.inr (.inr (.inr (.inr (.inr (.inr (.inr (.inr (.inr (.inr (.inr (.inr (.inr (.inr (.inr (.inr (.inr (.inr (.inr (.inr D))))))))))))))))))))))))) else (z_gS (z_sL q) a3 ((if ((z_sx q (a3).toNatClampNeg) &&& (31 : Int32)) = (0 : Int32) then (z_gS (z_sL q) (a3 + (1 : Int32)) (z_gS (z_sL q) (a3 + (2 : Int32)) (z_gS (z_sL q) (a3 + (3 : Int32)) (z_gS (z_sL q) (a3 + (4 : Int32)) (z_gS (z_sL q) (a3 + (5 : Int32)) (z_gK G 110 a1 ((f_X10_feed G D a1 (z_sx q ((a3 + (1 : Int32))).toNatClampNeg) (z_sx q ((a3 + (2 : Int32))).toNatClampNeg) (z_sx q ((a3 + (3 : Int32))).toNatClampNeg) (z_sx q ((a3 + (4 : Int32))).toNatClampNeg) (z_sx q ((a3 + (5 : Int32))).toNatClampNeg)).bind (fun p23 => (z_gS (z_sL q) (a3 + (1 : Int32)) (z_gS (z_sL q) (a3 + (2 : Int32)) (z_gS (z_sL q) (a3 + (3 : Int32)) (z_gS (z_sL q) (a3 + (4 : Int32)) (z_gS (z_sL q) (a3 + (5 : Int32)) (z_gK G 111 a2 ((f_X11_feed G p23.2 a2 (z_sx q ((a3 + (1 : Int32))).toNatClampNeg) (z_sx q ((a3 + (2 : Int32))).toNatClampNeg) (z_sx q ((a3 + (3 : Int32))).toNatClampNeg) (z_sx q ((a3 + (4 : Int32))).toNatClampNeg) (z_sx q ((a3 + (5 : Int32))).toNatClampNeg)).bind (fun p31 => ((if p23.1 = p31.1 then ((some (.inl (p31.2, (a3 + (6 : Int32)))))) else (some (.inr (.inl p31.2))))))))))))))))))))) else (if ((z_sx q (a3).toNatClampNeg) &&& (31 : Int32)) = (1 : Int32) then (z_gS (z_sL q) (a3 + (1 : Int32)) (z_gK G 110 a1 ((f_X10_end G D a1 (z_sx q ((a3 + (1 : Int32))).toNatClampNeg)).bind (fun p37 => (z_gS (z_sL q) (a3 + (1 : Int32)) (z_gK G 111 a2 ((f_X11_end G p37.2 a2 (z_sx q ((a3 + (1 : Int32))).toNatClampNeg)).bind (fun p41 => ((if p37.1 = p41.1 then ((some (.inl (p41.2, (a3 + (6 : Int32)))))) else (some (.inr (.inr (.inl p41.2)))))))))))))) else (if ((z_sx q (a3).toNatClampNeg) &&& (31 : Int32)) = (2 : Int32) then (z_gS (z_sL q) (a3 + (1 : Int32)) (z_gK G 110 a1 ((f_X10_byteOf G D a1 (z_sx q ((a3 + (1 : Int32))).toNatClampNeg)).bind (fun r47 => (z_gS (z_sL q) (a3 + (1 : Int32)) (z_gK G 111 a2 ((f_X11_byteOf G D a2 (z_sx q ((a3 + (1 : Int32))).toNatClampNeg)).bind (fun r51 => ((if r47 = r51 then ((some (.inl (D, (a3 + (6 : Int32)))))) else (some (.inr (.inr (.inr (.inl D))))))))))))))) else (if ((z_sx q (a3).toNatClampNeg) &&& (31 : Int32)) = (3 : Int32) then (z_gS (z_sL q) (a3 + (1 : Int32)) (z_gS (z_sL q) (a3 + (2 : Int32)) (z_gS (z_sL q) (a3 + (3 : Int32)) (z_gK G 110 a1 ((f_X10_plan G D a1 (z_sx q ((a3 + (1 : Int32))).toNatClampNeg) (z_sx q ((a3 + (2 : Int32))).toNatClampNeg) (z_sx q ((a3 + (3 : Int32))).toNatClampNeg)).bind (fun p59 => (z_gS (z_sL q) (a3 + (1 : Int32)) (z_gS (z_sL q) (a3 + (2 : Int32)) (z_gS (z_sL q) (a3 + (3 : Int32)) (z_gK G 111 a2 ((f_X11_plan G p59.2 a2 (z_sx q ((a3 + (1 : Int32))).toNatClampNeg) (z_sx q ((a3 + (2 : Int32))).toNatClampNeg) (z_sx q ((a3 + (3 : Int32))).toNatClampNeg)).bind (fun p65 => ((if p59.1 = p65.1 then ((some (.inl (p65.2, (a3 + (6 : Int32)))))) else (some (.inr (.inr (.inr (.inr (.inl p65.2)))))))))))))))))))) else (if ((z_sx q (a3).toNatClampNeg) &&& (31 : Int32)) = (4 : Int32) then (z_gS (z_sL q) (a3 + (1 : Int32)) (z_gS (z_sL q) (a3 + (2 : Int32)) (z_gS (z_sL q) (a3 + (3 : Int32)) (z_gK G 110 a1 ((f_X10_image G D a1 (z_sx q ((a3 + (1 : Int32))).toNatClampNeg) (z_sx q ((a3 + (2 : Int32))).toNatClampNeg) (z_sx q ((a3 + (3 : Int32))).toNatClampNeg)).bind (fun p73 => (z_gS (z_sL q) (a3 + (1 : Int32)) (z_gS (z_sL q) (a3 + (2 : Int32)) (z_gS (z_sL q) (a3 + (3 : Int32)) (z_gK G 111 a2 ((f_X11_image G p73.2 a2 (z_sx q ((a3 + (1 : Int32))).toNatClampNeg) (z_sx q ((a3 + (2 : Int32))).toNatClampNeg) (z_sx q ((a3 + (3 : Int32))).toNatClampNeg)).bind (fun p79 => ((if p73.1 = p79.1 then ((some (.inl (p79.2, (a3 + (6 : Int32)))))) else (some (.inr (.inr (.inr (.inr (.inr (.inl p79.2))))))))))))))))))))) else (if ((z_sx q (a3).toNatClampNeg) &&& (31 : Int32)) = (5 : Int32) then (z_gK G 110 a1 ((f_X10_clear G D a1).bind (fun p84 => (z_gK G 111 a2 ((f_X11_clear G p84.2 a2).bind (fun p87 => ((if p84.1 = p87.1 then ((some (.inl (p87.2, (a3 + (6 : Int32)))))) else (some (.inr (.inr (.inr (.inr (.inr (.inr (.inl p87.2)))))))))))))))) else (if ((z_sx q (a3).toNatClampNeg) &&& (31 : Int32)) = (6 : Int32) then (z_gS (z_sL q) (a3 + (1 : Int32)) (z_gS (z_sL q) (a3 + (2 : Int32)) (z_gS (z_sL q) (a3 + (3 : Int32)) (z_gK G 110 a1 ((f_X10_draft G D a1 (z_sx q ((a3 + (1 : Int32))).toNatClampNeg) (z_sx q ((a3 + (2 : Int32))).toNatClampNeg) (z_sx q ((a3 + (3 : Int32))).toNatClampNeg)).bind (fun p95 => (z_gS (z_sL q) (a3 + (1 : Int32)) (z_gS (z_sL q) (a3 + (2 : Int32)) (z_gS (z_sL q) (a3 + (3 : Int32)) (z_gK G 111 a2 ((f_X11_draft G p95.2 a2 (z_sx q ((a3 + (1 : Int32))).toNatClampNeg) (z_sx q ((a3 + (2 : Int32))).toNatClampNeg) (z_sx q ((a3 + (3 : Int32))).toNatClampNeg)).bind (fun p101 => ((if p95.1 = p101.1 then ((some (.inl (p101.2, (a3 + (6 : Int32)))))) else (some (.inr (.inr (.inr (.inr (.inr (.inr (.inr (.inl p101.2))))))))))))))))))))))) else (if ((z_sx q (a3).toNatClampNeg) &&& (31 : Int32)) = (7 : Int32) then (z_gS (z_sL q) (a3 + (1 : Int32)) (z_gK G 110 a1 ((f_X10_sign G D a1 (z_sx q ((a3 + (1 : Int32))).toNatClampNeg)).bind (fun p107 => (z_gS (z_sL q) (a3 + (1 : Int32)) (z_gK G 111 a2 ((f_X11_sign G p107.2 a2 (z_sx q ((a3 + (1 : Int32))).toNatClampNeg)).bind (fun p111 => ((if p107.1 = p111.1 then ((some (.inl (p111.2, (a3 + (6 : Int32)))))) else (some (.inr (.inr (.inr (.inr (.inr (.inr (.inr (.inr (.inl p111.2)))))))))))))))))))) else (if ((z_sx q (a3).toNatClampNeg) &&& (31 : Int32)) = (8 : Int32) then (z_gK G 110 a1 ((f_X10_show G D a1).bind (fun p116 => (z_gK G 111 a2 ((f_X11_show G p116.2 a2).bind (fun p119 => ((if p116.1 = p119.1 then ((some (.inl (p119.2, (a3 + (6 : Int32)))))) else (some (.inr (.inr (.inr (.inr (.inr (.inr (.inr (.inr (.inr (.inl p119.2))))))))))))))))))) else (if ((z_sx q (a3).toNatClampNeg) &&& (31 : Int32)) = (9 : Int32) then (z_gS (z_sL q) (a3 + (1 : Int32)) (z_gS (z_sL q) (a3 + (2 : Int32)) (z_gK G 110 a1 ((f_X10_piece G D a1 (z_sx q ((a3 + (1 : Int32))).toNatClampNeg) (z_sx q ((a3 + (2 : Int32))).toNatClampNeg)).bind (fun p126 => (z_gS (z_sL q) (a3 + (1 : Int32)) (z_gS (z_sL q) (a3 + (2 : Int32)) (z_gK G 111 a2 ((f_X11_piece G p126.2 a2 (z_sx q ((a3 + (1 : Int32))).toNatClampNeg) (z_sx q ((a3 + (2 : Int32))).toNatClampNeg)).bind (fun p131 => ((if p126.1 = p131.1 then ((some (.inl (p131.2, (a3 + (6 : Int32)))))) else (some (.inr (.inr (.inr (.inr (.inr (.inr (.inr (.inr (.inr (.inr (.inl p131.2)))))))))))))))))))))))) else (if ((z_sx q (a3).toNatClampNeg) &&& (31 : Int32)) = (10 : Int32) then (z_gS (z_sL q) (a3 + (1 : Int32)) (z_gS (z_sL q) (a3 + (2 : Int32)) (z_gK G 110 a1 ((f_X10_spoil G D a1 (z_sx q ((a3 + (1 : Int32))).toNatClampNeg) (z_sx q ((a3 + (2 : Int32))).toNatClampNeg)).bind (fun p138 => (z_gS (z_sL q) (a3 + (1 : Int32)) (z_gS (z_sL q) (a3 + (2 : Int32)) (z_gK G 111 a2 ((f_X11_spoil G p138.2 a2 (z_sx q ((a3 + (1 : Int32))).toNatClampNeg) (z_sx q ((a3 + (2 : Int32))).toNatClampNeg)).bind (fun p143 => ((if p138.1 = p143.1 then ((some (.inl (p143.2, (a3 + (6 : Int32)))))) else (some (.inr (.inr (.inr (.inr (.inr (.inr (.inr (.inr (.inr (.inr (.inr (.inl p143.2))))))))))))))))))))))))) else (if ((z_sx q (a3).toNatClampNeg) &&& (31 : Int32)) = (11 : Int32) then (z_gS (z_sL q) (a3 + (1 : Int32)) (z_gK G 110 a1 ((f_X10_begin G D a1 (z_sx q ((a3 + (1 : Int32))).toNatClampNeg)).bind (fun p149 => (z_gS (z_sL q) (a3 + (1 : Int32)) (z_gK G 111 a2 ((f_X11_begin G p149.2 a2 (z_sx q ((a3 + (1 : Int32))).toNatClampNeg)).bind (fun p153 => ((if p149.1 = p153.1 then ((some (.inl (p153.2, (a3 + (6 : Int32)))))) else (some (.inr (.inr (.inr (.inr (.inr (.inr (.inr (.inr (.inr (.inr (.inr (.inr (.inl p153.2)))))))))))))))))))))))) else (if ((z_sx q (a3).toNatClampNeg) &&& (31 : Int32)) = (12 : Int32) then (z_gK G 110 a1 ((f_X10_answer G D a1).bind (fun p158 => (z_gK G 111 a2 ((f_X11_answer G p158.2 a2).bind (fun p161 => ((if p158.1 = p161.1 then ((some (.inl (p161.2, (a3 + (6 : Int32)))))) else (some (.inr (.inr (.inr (.inr (.inr (.inr (.inr (.inr (.inr (.inr (.inr (.inr (.inr (.inl p161.2))))))))))))))))))))))) else (if ((z_sx q (a3).toNatClampNeg) &&& (31 : Int32)) = (13 : Int32) then (z_gK G 110 a1 ((f_X10_refuse G D a1).bind (fun p166 => (z_gK G 111 a2 ((f_X11_refuse G p166.2 a2).bind (fun p169 => ((if p166.1 = p169.1 then ((some (.inl (p169.2, (a3 + (6 : Int32)))))) else (some (.inr (.inr (.inr (.inr (.inr (.inr (.inr (.inr (.inr (.inr (.inr (.inr (.inr (.inr (.inl p169.2)))))))))))))))))))))))) else (if ((z_sx q (a3).toNatClampNeg) &&& (31 : Int32)) = (14 : Int32) then (z_gS (z_sL q) (a3 + (1 : Int32)) (z_gK G 110 a1 ((f_X10_awaits G D a1 (z_sx q ((a3 + (1 : Int32))).toNatClampNeg)).bind (fun r175 => (z_gS (z_sL q) (a3 + (1 : Int32)) (z_gK G 111 a2 ((f_X11_awaits G D a2 (z_sx q ((a3 + (1 : Int32))).toNatClampNeg)).bind (fun p179 => ((if r175 = p179.1 then ((some (.inl (p179.2, (a3 + (6 : Int32)))))) else (some (.inr (.inr (.inr (.inr (.inr (.inr (.inr (.inr (.inr (.inr (.inr (.inr (.inr (.inr (.inr (.inl p179.2))))))))))))))))))))))))))) else (if ((z_sx q (a3).toNatClampNeg) &&& (31 : Int32)) = (15 : Int32) then (z_gK G 110 a1 ((f_X10_stop G D a1).bind (fun p184 => (z_gK G 111 a2 ((f_X11_stop G p184.2 a2).bind (fun p187 => ((if p184.1 = p187.1 then ((some (.inl (p187.2, (a3 + (6 : Int32)))))) else (some (.inr (.inr (.inr (.inr (.inr (.inr (.inr (.inr (.inr (.inr (.inr (.inr (.inr (.inr (.inr (.inr (.inl p187.2)))))))))))))))))))))))))) else (if ((z_sx q (a3).toNatClampNeg) &&& (31 : Int32)) = (16 : Int32) then (z_gS (z_sL q) (a3 + (1 : Int32)) (z_gS (z_sL q) (a3 + (2 : Int32)) (z_gK G 110 a1 ((f_X10_power G D a1 (z_sx q ((a3 + (1 : Int32))).toNatClampNeg) (z_sx q ((a3 + (2 : Int32))).toNatClampNeg)).bind (fun p194 => (z_gS (z_sL q) (a3 + (1 : Int32)) (z_gS (z_sL q) (a3 + (2 : Int32)) (z_gK G 111 a2 ((f_X11_power G p194.2 a2 (z_sx q ((a3 + (1 : Int32))).toNatClampNeg) (z_sx q ((a3 + (2 : Int32))).toNatClampNeg)).bind (fun p199 => ((if p194.1 = p199.1 then ((some (.inl (p199.2, (a3 + (6 : Int32)))))) else (some (.inr (.inr (.inr (.inr (.inr (.inr (.inr (.inr (.inr (.inr (.inr (.inr (.inr (.inr (.inr (.inr (.inr (.inl p199.2))))))))))))))))))))))))))))))) else (if ((z_sx q (a3).toNatClampNeg) &&& (31 : Int32)) = (17 : Int32) then (z_gK G 110 a1 ((f_X10_boot G D a1).bind (fun p204 => (z_gK G 111 a2 ((f_X11_boot G p204.2 a2).bind (fun p207 => ((if p204.1 = p207.1 then ((some (.inl (p207.2, (a3 + (6 : Int32)))))) else (some (.inr (.inr (.inr (.inr (.inr (.inr (.inr (.inr (.inr (.inr (.inr (.inr (.inr (.inr (.inr (.inr (.inr (.inr (.inl p207.2)))))))))))))))))))))))))))) else (if ((z_sx q (a3).toNatClampNeg) &&& (31 : Int32)) = (18 : Int32) then (z_gS (z_sL q) (a3 + (1 : Int32)) ((if (z_sx q ((a3 + (1 : Int32))).toNatClampNeg) = (0 : Int32) then (z_gK G 110 a1 ((f_X10_test G D a1 (0 : Int32)).bind (fun p214 => (z_gS (z_sL q) (a3 + (1 : Int32)) ((if (z_sx q ((a3 + (1 : Int32))).toNatClampNeg) = (0 : Int32) then (z_gK G 111 a2 ((f_X11_test G p214.2 a2 (0 : Int32)).bind (fun p219 => ((if p214.1 = p219.1 then ((some (.inl (p219.2, (a3 + (6 : Int32)))))) else (some (.inr (.inr (.inr (.inr (.inr (.inr (.inr (.inr (.inr (.inr (.inr (.inr (.inr (.inr (.inr (.inr (.inr (.inr (.inr (.inl p219.2)))))))))))))))))))))))))) else ((z_gK G 111 a2 ((f_X11_test G p214.2 a2 (1 : Int32)).bind (fun p223 => ((if p214.1 = p223.1 then ((some (.inl (p223.2, (a3 + (6 : Int32)))))) else (some (.inr (.inr (.inr (.inr (.inr (.inr (.inr (.inr (.inr (.inr (.inr (.inr (.inr (.inr (.inr (.inr (.inr (.inr (.inr (.inl p223.2))))))))))))))))))))))))))))))))) else ((z_gK G 110 a1 ((f_X10_test G D a1 (1 : Int32)).bind (fun p227 => (z_gS (z_sL q) (a3 + (1 : Int32)) ((if (z_sx q ((a3 + (1 : Int32))).toNatClampNeg) = (0 : Int32) then (z_gK G 111 a2 ((f_X11_test G p227.2 a2 (0 : Int32)).bind (fun p232 => ((if p227.1 = p232.1 then ((some (.inl (p232.2, (a3 + (6 : Int32)))))) else (some (.inr (.inr (.inr (.inr (.inr (.inr (.inr (.inr (.inr (.inr (.inr (.inr (.inr (.inr (.inr (.inr (.inr (.inr (.inr (.inl p232.2)))))))))))))))))))))))))) else ((z_gK G 111 a2 ((f_X11_test G p227.2 a2 (1 : Int32)).bind (fun p236 => ((if p227.1 = p236.1 then ((some (.inl (p236.2, (a3 + (6 : Int32)))))) else (some (.inr (.inr (.inr (.inr (.inr (.inr (.inr (.inr (.inr (.inr (.inr (.inr (.inr (.inr (.inr (.inr (.inr (.inr (.inr (.inl p236.2))))))))))))))))))))))))))))))))))))) else (if ((z_sx q (a3).toNatClampNeg) &&& (31 : Int32)) = (19 : Int32) then (z_gS (z_sL q) (a3 + (1 : Int32)) (z_gK G 110 a1 ((f_X10_told G D a1 (z_sx q ((a3 + (1 : Int32))).toNatClampNeg)).bind (fun r242 => (z_gS (z_sL q) (a3 + (1 : Int32)) (z_gK G 111 a2 ((f_X11_told G D a2 (z_sx q ((a3 + (1 : Int32))).toNatClampNeg)).bind (fun p246 => ((if r242 = p246.1 then ((some (.inl (p246.2, (a3 + (6 : Int32)))))) else (some (.inr (.inr (.inr (.inr (.inr (.inr (.inr (.inr (.inr (.inr (.inr (.inr (.inr (.inr (.inr (.inr (.inr (.inr (.inr (.inr (.inl p246.2)))))))))))))))))))))))))))))))) else (if ((z_sx q (a3).toNatClampNeg) &&& (31 : Int32)) = (20 : Int32) then (z_gS (z_sL q) (a3 + (1 : Int32)) (z_gS (z_sL q) (a3 + (2 : Int32)) (z_gS (z_sL q) (a3 + (3 : Int32)) (z_gK G 110 a1 ((f_X10_trusted G D a1 (z_sx q ((a3 + (1 : Int32))).toNatClampNeg) (z_sx q ((a3 + (2 : Int32))).toNatClampNeg) (z_sx q ((a3 + (3 : Int32))).toNatClampNeg)).bind (fun r254 => (z_gS (z_sL q) (a3 + (1 : Int32)) (z_gS (z_sL q) (a3 + (2 : Int32)) (z_gS (z_sL q) (a3 + (3 : Int32)) (z_gK G 111 a2 ((f_X11_trusted G D a2 (z_sx q ((a3 + (1 : Int32))).toNatClampNeg) (z_sx q ((a3 + (2 : Int32))).toNatClampNeg) (z_sx q ((a3 + (3 : Int32))).toNatClampNeg)).bind (fun p260 => ((if r254 = p260.1 then ((some (.inl (p260.2, (a3 + (6 : Int32)))))) else (some (.inr (.inr (.inr (.inr (.inr (.inr (.inr (.inr (.inr (.inr (.inr (.inr (.inr (.inr (.inr (.inr (.inr (.inr (.inr (.inr (.inr (.inl p260.2))))))))))))))))))))))))))))))))))))) else (if ((z_sx q (a3).toNatClampNeg) &&& (31 : Int32)) = (21 : Int32) then (z_gS (z_sL q) (a3 + (1 : Int32)) (z_gS (z_sL q) (a3 + (2 : Int32)) (z_gK G 110 a1 ((f_X10_flash G D a1 (z_sx q ((a3 + (1 : Int32))).toNatClampNeg) (z_sx q ((a3 + (2 : Int32))).toNatClampNeg)).bind (fun r267 => (z_gS (z_sL q) (a3 + (1 : Int32)) (z_gS (z_sL q) (a3 + (2 : Int32)) (z_gK G 111 a2 ((f_X11_flash G D a2 (z_sx q ((a3 + (1 : Int32))).toNatClampNeg) (z_sx q ((a3 + (2 : Int32))).toNatClampNeg)).bind (fun r272 => ((if r267 = r272 then ((some (.inl (D, (a3 + (6 : Int32)))))) else (some (.inr (.inr (.inr (.inr (.inr (.inr (.inr (.inr (.inr (.inr (.inr (.inr (.inr (.inr (.inr (.inr (.inr (.inr (.inr (.inr (.inr (.inr (.inl D)))))))))))))))))))))))))))))))))))) else (if ((z_sx q (a3).toNatClampNeg) &&& (31 : Int32)) = (22 : Int32) then (z_gK G 110 a1 ((f_X10_digest G D a1).bind (fun r277 => (z_gK G 111 a2 ((f_X11_digest G D a2).bind (fun p280 => ((if (lg_cmp r277 p280.1) = (0 : Int32) then ((some (.inl (p280.2, (a3 + (6 : Int32)))))) else (some (.inr (.inr (.inr (.inr (.inr (.inr (.inr (.inr (.inr (.inr (.inr (.inr (.inr (.inr (.inr (.inr (.inr (.inr (.inr (.inr (.inr (.inr (.inr (.inl p280.2))))))))))))))))))))))))))))))))) else ((some (.inl (D, (a3 + (6 : Int32))))))))))))))))))))))))))))))))
set_option maxRecDepth 100000 in
set_option maxHeartbeats 4000000 in
theorem tc_L_law_28 {q : z_Q} {X : z_X} {G : z_G} {D : z_D} {Q : State → Prop} {a0 : Nat} {a1 : Nat} {a2 : Nat} {a3 : Int32} {nm : String} (o : z_O q X cL_law 4 "FlashTrustLaw" nm (some .boolean)) (hX : x_R X = room_1) (hP : a0 = z_sb q) {ρ : (z_D × Int32) ⊕ (z_D ⊕ (z_D ⊕ (z_D ⊕ (z_D ⊕ (z_D ⊕ (z_D ⊕ (z_D ⊕ (z_D ⊕ (z_D ⊕ (z_D ⊕ (z_D ⊕ (z_D ⊕ (z_D ⊕ (z_D ⊕ (z_D ⊕ (z_D ⊕ (z_D ⊕ (z_D ⊕ (z_D ⊕ (z_D ⊕ (z_D ⊕ (z_D ⊕ (z_D ⊕ z_D)))))))))))))))))))))))} (h : c_L_law_28 q G D a0 a1 a2 a3 = some ρ) (hk : k_L_law_28 q X Q G a0 a1 a2 ρ) : z_V q X 4 Q 176 85433 G D 28 [(0, .ref a0), (1, .ref (z_w q a1)), (2, .ref (z_w q a2)), (3, .int a3)] [] := by
  unfold c_L_law_28 at h
  refine v_iload_n o dL_law_28 rfl 3 rfl ?_
  refine v_aload_n o dL_law_29 rfl 0 rfl ?_
  refine v_slenP o hP dL_law_30 ?_
  refine v_bipush o (6 : Int32) dL_law_31 (by decide) ?_
  refine v_isub o dL_law_33 ?_
  refine v_icmp_gt o 790 dL_law_34 (by decide) (fun c13 => ?_) (fun c13 => ?_)
  · replace h := z_ip c13 h
    obtain rfl := z_some h
    refine v_sub [] rfl ?_
    exact hk
  · replace h := z_in c13 h
    refine v_aload_n o dL_law_37 rfl 0 rfl ?_
    refine v_iload_n o dL_law_38 rfl 3 rfl ?_
    obtain ⟨n14, h⟩ := z_gS_of h
    refine v_sldP o hP n14 dL_law_39 ?_
    refine v_bipush o (31 : Int32) dL_law_40 (by decide) ?_
    refine v_iand o dL_law_42 ?_
    by_cases c15 : ((z_sx q (a3).toNatClampNeg) &&& (31 : Int32)) = (0 : Int32)
    · replace h := z_ip c15 h
      refine v_tabAt o (0 : Int32) 148 dL_law_43 c15 (by decide) (by decide) rfl (by decide) ?_
      refine v_aload_n o dL_law_148 rfl 1 rfl ?_
      refine v_aload_n o dL_law_149 rfl 0 rfl ?_
      refine v_iload_n o dL_law_150 rfl 3 rfl ?_
      refine v_iconst o (1 : Int32) dL_law_151 (by decide) ?_
      refine v_iadd o dL_law_152 ?_
      obtain ⟨n16, h⟩ := z_gS_of h
      refine v_sldP o hP n16 dL_law_153 ?_
      refine v_aload_n o dL_law_154 rfl 0 rfl ?_
      refine v_iload_n o dL_law_155 rfl 3 rfl ?_
      refine v_iconst o (2 : Int32) dL_law_156 (by decide) ?_
      refine v_iadd o dL_law_157 ?_
      obtain ⟨n17, h⟩ := z_gS_of h
      refine v_sldP o hP n17 dL_law_158 ?_
      refine v_aload_n o dL_law_159 rfl 0 rfl ?_
      refine v_iload_n o dL_law_160 rfl 3 rfl ?_
      refine v_iconst o (3 : Int32) dL_law_161 (by decide) ?_
      refine v_iadd o dL_law_162 ?_
      obtain ⟨n18, h⟩ := z_gS_of h
      refine v_sldP o hP n18 dL_law_163 ?_
      refine v_aload_n o dL_law_164 rfl 0 rfl ?_
      refine v_iload_n o dL_law_165 rfl 3 rfl ?_
      refine v_iconst o (4 : Int32) dL_law_166 (by decide) ?_
      refine v_iadd o dL_law_167 ?_
      obtain ⟨n19, h⟩ := z_gS_of h
      refine v_sldP o hP n19 dL_law_168 ?_
      refine v_aload_n o dL_law_169 rfl 0 rfl ?_
      refine v_iload_n o dL_law_170 rfl 3 rfl ?_
      refine v_iconst o (5 : Int32) dL_law_171 (by decide) ?_
      refine v_iadd o dL_law_172 ?_
      obtain ⟨n20, h⟩ := z_gS_of h
      refine v_sldP o hP n20 dL_law_173 ?_
      obtain ⟨n21, h⟩ := z_gK_of h
      obtain ⟨p23, he22, h⟩ := z_bind h
      refine v_callV o yw_X10_feed ln_3_49 wi_X10_feed ws_X10_feed hX (by decide) 10 rfl n21 (As := [.int (z_sx q ((a3 + (1 : Int32))).toNatClampNeg), .int (z_sx q ((a3 + (2 : Int32))).toNatClampNeg), .int (z_sx q ((a3 + (3 : Int32))).toNatClampNeg), .int (z_sx q ((a3 + (4 : Int32))).toNatClampNeg), .int (z_sx q ((a3 + (5 : Int32))).toNatClampNeg)]) rfl rfl (Nat.le_of_ble_eq_true rfl) (e_X10_feed n21 he22) dL_law_174 ?_
      refine v_aload_n o dL_law_177 rfl 2 rfl ?_
      refine v_aload_n o dL_law_178 rfl 0 rfl ?_
      refine v_iload_n o dL_law_179 rfl 3 rfl ?_
      refine v_iconst o (1 : Int32) dL_law_180 (by decide) ?_
      refine v_iadd o dL_law_181 ?_
      obtain ⟨n24, h⟩ := z_gS_of h
      refine v_sldP o hP n24 dL_law_182 ?_
      refine v_aload_n o dL_law_183 rfl 0 rfl ?_
      refine v_iload_n o dL_law_184 rfl 3 rfl ?_
      refine v_iconst o (2 : Int32) dL_law_185 (by decide) ?_
      refine v_iadd o dL_law_186 ?_
      obtain ⟨n25, h⟩ := z_gS_of h
      refine v_sldP o hP n25 dL_law_187 ?_
      refine v_aload_n o dL_law_188 rfl 0 rfl ?_
      refine v_iload_n o dL_law_189 rfl 3 rfl ?_
      refine v_iconst o (3 : Int32) dL_law_190 (by decide) ?_
      refine v_iadd o dL_law_191 ?_
      obtain ⟨n26, h⟩ := z_gS_of h
      refine v_sldP o hP n26 dL_law_192 ?_
      refine v_aload_n o dL_law_193 rfl 0 rfl ?_
      refine v_iload_n o dL_law_194 rfl 3 rfl ?_
      refine v_iconst o (4 : Int32) dL_law_195 (by decide) ?_
      refine v_iadd o dL_law_196 ?_
      obtain ⟨n27, h⟩ := z_gS_of h
      refine v_sldP o hP n27 dL_law_197 ?_
      refine v_aload_n o dL_law_198 rfl 0 rfl ?_
      refine v_iload_n o dL_law_199 rfl 3 rfl ?_
      refine v_iconst o (5 : Int32) dL_law_200 (by decide) ?_
      refine v_iadd o dL_law_201 ?_
      obtain ⟨n28, h⟩ := z_gS_of h
      refine v_sldP o hP n28 dL_law_202 ?_
      obtain ⟨n29, h⟩ := z_gK_of h
      obtain ⟨p31, he30, h⟩ := z_bind h
      refine v_callV o yw_X11_feed ln_6_81 wi_X11_feed ws_X11_feed hX (by decide) 11 rfl n29 (As := [.int (z_sx q ((a3 + (1 : Int32))).toNatClampNeg), .int (z_sx q ((a3 + (2 : Int32))).toNatClampNeg), .int (z_sx q ((a3 + (3 : Int32))).toNatClampNeg), .int (z_sx q ((a3 + (4 : Int32))).toNatClampNeg), .int (z_sx q ((a3 + (5 : Int32))).toNatClampNeg)]) rfl rfl (Nat.le_of_ble_eq_true rfl) (e_X11_feed n29 he30) dL_law_203 ?_
      refine v_icmp_eq o 784 dL_law_206 (by decide) (fun c32 => ?_) (fun c32 => ?_)
      · replace h := z_ip c32 h
        refine v_iinc o (a3 + (6 : Int32)) [(3, .int (a3 + (6 : Int32))), (0, .ref a0), (1, .ref (z_w q a1)), (2, .ref (z_w q a2))] dL_law_784 3 rfl rfl (by decide) rfl ?_
        refine v_goto o 28 dL_law_787 (by decide) ?_
        obtain rfl := z_some h
        refine v_sub [1, 2, 3, 0] rfl ?_
        exact hk
      · replace h := z_in c32 h
        obtain rfl := z_some h
        refine v_sub [] rfl ?_
        exact hk
    · replace h := z_in c15 h
      by_cases c33 : ((z_sx q (a3).toNatClampNeg) &&& (31 : Int32)) = (1 : Int32)
      · replace h := z_ip c33 h
        refine v_tabAt o (1 : Int32) 211 dL_law_43 c33 (by decide) (by decide) rfl (by decide) ?_
        refine v_aload_n o dL_law_211 rfl 1 rfl ?_
        refine v_aload_n o dL_law_212 rfl 0 rfl ?_
        refine v_iload_n o dL_law_213 rfl 3 rfl ?_
        refine v_iconst o (1 : Int32) dL_law_214 (by decide) ?_
        refine v_iadd o dL_law_215 ?_
        obtain ⟨n34, h⟩ := z_gS_of h
        refine v_sldP o hP n34 dL_law_216 ?_
        obtain ⟨n35, h⟩ := z_gK_of h
        obtain ⟨p37, he36, h⟩ := z_bind h
        refine v_callV o yw_X10_end ln_3_58 wi_X10_end ws_X10_end hX (by decide) 10 rfl n35 (As := [.int (z_sx q ((a3 + (1 : Int32))).toNatClampNeg)]) rfl rfl (Nat.le_of_ble_eq_true rfl) (e_X10_end n35 he36) dL_law_217 ?_
        refine v_aload_n o dL_law_220 rfl 2 rfl ?_
        refine v_aload_n o dL_law_221 rfl 0 rfl ?_
        refine v_iload_n o dL_law_222 rfl 3 rfl ?_
        refine v_iconst o (1 : Int32) dL_law_223 (by decide) ?_
        refine v_iadd o dL_law_224 ?_
        obtain ⟨n38, h⟩ := z_gS_of h
        refine v_sldP o hP n38 dL_law_225 ?_
        obtain ⟨n39, h⟩ := z_gK_of h
        obtain ⟨p41, he40, h⟩ := z_bind h
        refine v_callV o yw_X11_end ln_6_85 wi_X11_end ws_X11_end hX (by decide) 11 rfl n39 (As := [.int (z_sx q ((a3 + (1 : Int32))).toNatClampNeg)]) rfl rfl (Nat.le_of_ble_eq_true rfl) (e_X11_end n39 he40) dL_law_226 ?_
        refine v_icmp_eq o 784 dL_law_229 (by decide) (fun c42 => ?_) (fun c42 => ?_)
        · replace h := z_ip c42 h
          refine v_iinc o (a3 + (6 : Int32)) [(3, .int (a3 + (6 : Int32))), (0, .ref a0), (1, .ref (z_w q a1)), (2, .ref (z_w q a2))] dL_law_784 3 rfl rfl (by decide) rfl ?_
          refine v_goto o 28 dL_law_787 (by decide) ?_
          obtain rfl := z_some h
          refine v_sub [1, 2, 3, 0] rfl ?_
          exact hk
        · replace h := z_in c42 h
          obtain rfl := z_some h
          refine v_sub [] rfl ?_
          exact hk
      · replace h := z_in c33 h
        by_cases c43 : ((z_sx q (a3).toNatClampNeg) &&& (31 : Int32)) = (2 : Int32)
        · replace h := z_ip c43 h
          refine v_tabAt o (2 : Int32) 234 dL_law_43 c43 (by decide) (by decide) rfl (by decide) ?_
          refine v_aload_n o dL_law_234 rfl 1 rfl ?_
          refine v_aload_n o dL_law_235 rfl 0 rfl ?_
          refine v_iload_n o dL_law_236 rfl 3 rfl ?_
          refine v_iconst o (1 : Int32) dL_law_237 (by decide) ?_
          refine v_iadd o dL_law_238 ?_
          obtain ⟨n44, h⟩ := z_gS_of h
          refine v_sldP o hP n44 dL_law_239 ?_
          obtain ⟨n45, h⟩ := z_gK_of h
          obtain ⟨r47, he46, h⟩ := z_bind h
          refine v_callV o yw_X10_byteOf ln_3_66 wi_X10_byteOf ws_X10_byteOf hX (by decide) 10 rfl n45 (As := [.int (z_sx q ((a3 + (1 : Int32))).toNatClampNeg)]) rfl rfl (Nat.le_of_ble_eq_true rfl) (e_X10_byteOf n45 he46) dL_law_240 ?_
          refine v_aload_n o dL_law_243 rfl 2 rfl ?_
          refine v_aload_n o dL_law_244 rfl 0 rfl ?_
          refine v_iload_n o dL_law_245 rfl 3 rfl ?_
          refine v_iconst o (1 : Int32) dL_law_246 (by decide) ?_
          refine v_iadd o dL_law_247 ?_
          obtain ⟨n48, h⟩ := z_gS_of h
          refine v_sldP o hP n48 dL_law_248 ?_
          obtain ⟨n49, h⟩ := z_gK_of h
          obtain ⟨r51, he50, h⟩ := z_bind h
          refine v_callV o yw_X11_byteOf ln_6_89 wi_X11_byteOf ws_X11_byteOf hX (by decide) 11 rfl n49 (As := [.int (z_sx q ((a3 + (1 : Int32))).toNatClampNeg)]) rfl rfl (Nat.le_of_ble_eq_true rfl) (e_X11_byteOf n49 he50) dL_law_249 ?_
          refine v_icmp_eq o 784 dL_law_252 (by decide) (fun c52 => ?_) (fun c52 => ?_)
          · replace h := z_ip c52 h
            refine v_iinc o (a3 + (6 : Int32)) [(3, .int (a3 + (6 : Int32))), (0, .ref a0), (1, .ref (z_w q a1)), (2, .ref (z_w q a2))] dL_law_784 3 rfl rfl (by decide) rfl ?_
            refine v_goto o 28 dL_law_787 (by decide) ?_
            obtain rfl := z_some h
            refine v_sub [1, 2, 3, 0] rfl ?_
            exact hk
          · replace h := z_in c52 h
            obtain rfl := z_some h
            refine v_sub [] rfl ?_
            exact hk
        · replace h := z_in c43 h
          by_cases c53 : ((z_sx q (a3).toNatClampNeg) &&& (31 : Int32)) = (3 : Int32)
          · replace h := z_ip c53 h
            refine v_tabAt o (3 : Int32) 257 dL_law_43 c53 (by decide) (by decide) rfl (by decide) ?_
            refine v_aload_n o dL_law_257 rfl 1 rfl ?_
            refine v_aload_n o dL_law_258 rfl 0 rfl ?_
            refine v_iload_n o dL_law_259 rfl 3 rfl ?_
            refine v_iconst o (1 : Int32) dL_law_260 (by decide) ?_
            refine v_iadd o dL_law_261 ?_
            obtain ⟨n54, h⟩ := z_gS_of h
            refine v_sldP o hP n54 dL_law_262 ?_
            refine v_aload_n o dL_law_263 rfl 0 rfl ?_
            refine v_iload_n o dL_law_264 rfl 3 rfl ?_
            refine v_iconst o (2 : Int32) dL_law_265 (by decide) ?_
            refine v_iadd o dL_law_266 ?_
            obtain ⟨n55, h⟩ := z_gS_of h
            refine v_sldP o hP n55 dL_law_267 ?_
            refine v_aload_n o dL_law_268 rfl 0 rfl ?_
            refine v_iload_n o dL_law_269 rfl 3 rfl ?_
            refine v_iconst o (3 : Int32) dL_law_270 (by decide) ?_
            refine v_iadd o dL_law_271 ?_
            obtain ⟨n56, h⟩ := z_gS_of h
            refine v_sldP o hP n56 dL_law_272 ?_
            obtain ⟨n57, h⟩ := z_gK_of h
            obtain ⟨p59, he58, h⟩ := z_bind h
            refine v_callV o yw_X10_plan ln_3_75 wi_X10_plan ws_X10_plan hX (by decide) 10 rfl n57 (As := [.int (z_sx q ((a3 + (1 : Int32))).toNatClampNeg), .int (z_sx q ((a3 + (2 : Int32))).toNatClampNeg), .int (z_sx q ((a3 + (3 : Int32))).toNatClampNeg)]) rfl rfl (Nat.le_of_ble_eq_true rfl) (e_X10_plan n57 he58) dL_law_273 ?_
            refine v_aload_n o dL_law_276 rfl 2 rfl ?_
            refine v_aload_n o dL_law_277 rfl 0 rfl ?_
            refine v_iload_n o dL_law_278 rfl 3 rfl ?_
            refine v_iconst o (1 : Int32) dL_law_279 (by decide) ?_
            refine v_iadd o dL_law_280 ?_
            obtain ⟨n60, h⟩ := z_gS_of h
            refine v_sldP o hP n60 dL_law_281 ?_
            refine v_aload_n o dL_law_282 rfl 0 rfl ?_
            refine v_iload_n o dL_law_283 rfl 3 rfl ?_
            refine v_iconst o (2 : Int32) dL_law_284 (by decide) ?_
            refine v_iadd o dL_law_285 ?_
            obtain ⟨n61, h⟩ := z_gS_of h
            refine v_sldP o hP n61 dL_law_286 ?_
            refine v_aload_n o dL_law_287 rfl 0 rfl ?_
            refine v_iload_n o dL_law_288 rfl 3 rfl ?_
            refine v_iconst o (3 : Int32) dL_law_289 (by decide) ?_
            refine v_iadd o dL_law_290 ?_
            obtain ⟨n62, h⟩ := z_gS_of h
            refine v_sldP o hP n62 dL_law_291 ?_
            obtain ⟨n63, h⟩ := z_gK_of h
            obtain ⟨p65, he64, h⟩ := z_bind h
            refine v_callV o yw_X11_plan ln_7_47 wi_X11_plan ws_X11_plan hX (by decide) 11 rfl n63 (As := [.int (z_sx q ((a3 + (1 : Int32))).toNatClampNeg), .int (z_sx q ((a3 + (2 : Int32))).toNatClampNeg), .int (z_sx q ((a3 + (3 : Int32))).toNatClampNeg)]) rfl rfl (Nat.le_of_ble_eq_true rfl) (e_X11_plan n63 he64) dL_law_292 ?_
            refine v_icmp_eq o 784 dL_law_295 (by decide) (fun c66 => ?_) (fun c66 => ?_)
            · replace h := z_ip c66 h
              refine v_iinc o (a3 + (6 : Int32)) [(3, .int (a3 + (6 : Int32))), (0, .ref a0), (1, .ref (z_w q a1)), (2, .ref (z_w q a2))] dL_law_784 3 rfl rfl (by decide) rfl ?_
              refine v_goto o 28 dL_law_787 (by decide) ?_
              obtain rfl := z_some h
              refine v_sub [1, 2, 3, 0] rfl ?_
              exact hk
            · replace h := z_in c66 h
              obtain rfl := z_some h
              refine v_sub [] rfl ?_
              exact hk
          · replace h := z_in c53 h
            by_cases c67 : ((z_sx q (a3).toNatClampNeg) &&& (31 : Int32)) = (4 : Int32)
            · replace h := z_ip c67 h
              refine v_tabAt o (4 : Int32) 300 dL_law_43 c67 (by decide) (by decide) rfl (by decide) ?_
              refine v_aload_n o dL_law_300 rfl 1 rfl ?_
              refine v_aload_n o dL_law_301 rfl 0 rfl ?_
              refine v_iload_n o dL_law_302 rfl 3 rfl ?_
              refine v_iconst o (1 : Int32) dL_law_303 (by decide) ?_
              refine v_iadd o dL_law_304 ?_
              obtain ⟨n68, h⟩ := z_gS_of h
              refine v_sldP o hP n68 dL_law_305 ?_
              refine v_aload_n o dL_law_306 rfl 0 rfl ?_
              refine v_iload_n o dL_law_307 rfl 3 rfl ?_
              refine v_iconst o (2 : Int32) dL_law_308 (by decide) ?_
              refine v_iadd o dL_law_309 ?_
              obtain ⟨n69, h⟩ := z_gS_of h
              refine v_sldP o hP n69 dL_law_310 ?_
              refine v_aload_n o dL_law_311 rfl 0 rfl ?_
              refine v_iload_n o dL_law_312 rfl 3 rfl ?_
              refine v_iconst o (3 : Int32) dL_law_313 (by decide) ?_
              refine v_iadd o dL_law_314 ?_
              obtain ⟨n70, h⟩ := z_gS_of h
              refine v_sldP o hP n70 dL_law_315 ?_
              obtain ⟨n71, h⟩ := z_gK_of h
              obtain ⟨p73, he72, h⟩ := z_bind h
              refine v_callV o yw_X10_image ln_3_90 wi_X10_image ws_X10_image hX (by decide) 10 rfl n71 (As := [.int (z_sx q ((a3 + (1 : Int32))).toNatClampNeg), .int (z_sx q ((a3 + (2 : Int32))).toNatClampNeg), .int (z_sx q ((a3 + (3 : Int32))).toNatClampNeg)]) rfl rfl (Nat.le_of_ble_eq_true rfl) (e_X10_image n71 he72) dL_law_316 ?_
              refine v_aload_n o dL_law_319 rfl 2 rfl ?_
              refine v_aload_n o dL_law_320 rfl 0 rfl ?_
              refine v_iload_n o dL_law_321 rfl 3 rfl ?_
              refine v_iconst o (1 : Int32) dL_law_322 (by decide) ?_
              refine v_iadd o dL_law_323 ?_
              obtain ⟨n74, h⟩ := z_gS_of h
              refine v_sldP o hP n74 dL_law_324 ?_
              refine v_aload_n o dL_law_325 rfl 0 rfl ?_
              refine v_iload_n o dL_law_326 rfl 3 rfl ?_
              refine v_iconst o (2 : Int32) dL_law_327 (by decide) ?_
              refine v_iadd o dL_law_328 ?_
              obtain ⟨n75, h⟩ := z_gS_of h
              refine v_sldP o hP n75 dL_law_329 ?_
              refine v_aload_n o dL_law_330 rfl 0 rfl ?_
              refine v_iload_n o dL_law_331 rfl 3 rfl ?_
              refine v_iconst o (3 : Int32) dL_law_332 (by decide) ?_
              refine v_iadd o dL_law_333 ?_
              obtain ⟨n76, h⟩ := z_gS_of h
              refine v_sldP o hP n76 dL_law_334 ?_
              obtain ⟨n77, h⟩ := z_gK_of h
              obtain ⟨p79, he78, h⟩ := z_bind h
              refine v_callV o yw_X11_image ln_7_52 wi_X11_image ws_X11_image hX (by decide) 11 rfl n77 (As := [.int (z_sx q ((a3 + (1 : Int32))).toNatClampNeg), .int (z_sx q ((a3 + (2 : Int32))).toNatClampNeg), .int (z_sx q ((a3 + (3 : Int32))).toNatClampNeg)]) rfl rfl (Nat.le_of_ble_eq_true rfl) (e_X11_image n77 he78) dL_law_335 ?_
              refine v_icmp_eq o 784 dL_law_338 (by decide) (fun c80 => ?_) (fun c80 => ?_)
              · replace h := z_ip c80 h
                refine v_iinc o (a3 + (6 : Int32)) [(3, .int (a3 + (6 : Int32))), (0, .ref a0), (1, .ref (z_w q a1)), (2, .ref (z_w q a2))] dL_law_784 3 rfl rfl (by decide) rfl ?_
                refine v_goto o 28 dL_law_787 (by decide) ?_
                obtain rfl := z_some h
                refine v_sub [1, 2, 3, 0] rfl ?_
                exact hk
              · replace h := z_in c80 h
                obtain rfl := z_some h
                refine v_sub [] rfl ?_
                exact hk
            · replace h := z_in c67 h
              by_cases c81 : ((z_sx q (a3).toNatClampNeg) &&& (31 : Int32)) = (5 : Int32)
              · replace h := z_ip c81 h
                refine v_tabAt o (5 : Int32) 343 dL_law_43 c81 (by decide) (by decide) rfl (by decide) ?_
                refine v_aload_n o dL_law_343 rfl 1 rfl ?_
                obtain ⟨n82, h⟩ := z_gK_of h
                obtain ⟨p84, he83, h⟩ := z_bind h
                refine v_callV o yw_X10_clear ln_3_106 wi_X10_clear ws_X10_clear hX (by decide) 10 rfl n82 (As := []) rfl rfl (Nat.le_of_ble_eq_true rfl) (e_X10_clear n82 he83) dL_law_344 ?_
                refine v_aload_n o dL_law_347 rfl 2 rfl ?_
                obtain ⟨n85, h⟩ := z_gK_of h
                obtain ⟨p87, he86, h⟩ := z_bind h
                refine v_callV o yw_X11_clear ln_7_56 wi_X11_clear ws_X11_clear hX (by decide) 11 rfl n85 (As := []) rfl rfl (Nat.le_of_ble_eq_true rfl) (e_X11_clear n85 he86) dL_law_348 ?_
                refine v_icmp_eq o 784 dL_law_351 (by decide) (fun c88 => ?_) (fun c88 => ?_)
                · replace h := z_ip c88 h
                  refine v_iinc o (a3 + (6 : Int32)) [(3, .int (a3 + (6 : Int32))), (0, .ref a0), (1, .ref (z_w q a1)), (2, .ref (z_w q a2))] dL_law_784 3 rfl rfl (by decide) rfl ?_
                  refine v_goto o 28 dL_law_787 (by decide) ?_
                  obtain rfl := z_some h
                  refine v_sub [1, 2, 3, 0] rfl ?_
                  exact hk
                · replace h := z_in c88 h
                  obtain rfl := z_some h
                  refine v_sub [] rfl ?_
                  exact hk
              · replace h := z_in c81 h
                by_cases c89 : ((z_sx q (a3).toNatClampNeg) &&& (31 : Int32)) = (6 : Int32)
                · replace h := z_ip c89 h
                  refine v_tabAt o (6 : Int32) 356 dL_law_43 c89 (by decide) (by decide) rfl (by decide) ?_
                  refine v_aload_n o dL_law_356 rfl 1 rfl ?_
                  refine v_aload_n o dL_law_357 rfl 0 rfl ?_
                  refine v_iload_n o dL_law_358 rfl 3 rfl ?_
                  refine v_iconst o (1 : Int32) dL_law_359 (by decide) ?_
                  refine v_iadd o dL_law_360 ?_
                  obtain ⟨n90, h⟩ := z_gS_of h
                  refine v_sldP o hP n90 dL_law_361 ?_
                  refine v_aload_n o dL_law_362 rfl 0 rfl ?_
                  refine v_iload_n o dL_law_363 rfl 3 rfl ?_
                  refine v_iconst o (2 : Int32) dL_law_364 (by decide) ?_
                  refine v_iadd o dL_law_365 ?_
                  obtain ⟨n91, h⟩ := z_gS_of h
                  refine v_sldP o hP n91 dL_law_366 ?_
                  refine v_aload_n o dL_law_367 rfl 0 rfl ?_
                  refine v_iload_n o dL_law_368 rfl 3 rfl ?_
                  refine v_iconst o (3 : Int32) dL_law_369 (by decide) ?_
                  refine v_iadd o dL_law_370 ?_
                  obtain ⟨n92, h⟩ := z_gS_of h
                  refine v_sldP o hP n92 dL_law_371 ?_
                  obtain ⟨n93, h⟩ := z_gK_of h
                  obtain ⟨p95, he94, h⟩ := z_bind h
                  refine v_callV o yw_X10_draft ln_3_114 wi_X10_draft ws_X10_draft hX (by decide) 10 rfl n93 (As := [.int (z_sx q ((a3 + (1 : Int32))).toNatClampNeg), .int (z_sx q ((a3 + (2 : Int32))).toNatClampNeg), .int (z_sx q ((a3 + (3 : Int32))).toNatClampNeg)]) rfl rfl (Nat.le_of_ble_eq_true rfl) (e_X10_draft n93 he94) dL_law_372 ?_
                  refine v_aload_n o dL_law_375 rfl 2 rfl ?_
                  refine v_aload_n o dL_law_376 rfl 0 rfl ?_
                  refine v_iload_n o dL_law_377 rfl 3 rfl ?_
                  refine v_iconst o (1 : Int32) dL_law_378 (by decide) ?_
                  refine v_iadd o dL_law_379 ?_
                  obtain ⟨n96, h⟩ := z_gS_of h
                  refine v_sldP o hP n96 dL_law_380 ?_
                  refine v_aload_n o dL_law_381 rfl 0 rfl ?_
                  refine v_iload_n o dL_law_382 rfl 3 rfl ?_
                  refine v_iconst o (2 : Int32) dL_law_383 (by decide) ?_
                  refine v_iadd o dL_law_384 ?_
                  obtain ⟨n97, h⟩ := z_gS_of h
                  refine v_sldP o hP n97 dL_law_385 ?_
                  refine v_aload_n o dL_law_386 rfl 0 rfl ?_
                  refine v_iload_n o dL_law_387 rfl 3 rfl ?_
                  refine v_iconst o (3 : Int32) dL_law_388 (by decide) ?_
                  refine v_iadd o dL_law_389 ?_
                  obtain ⟨n98, h⟩ := z_gS_of h
                  refine v_sldP o hP n98 dL_law_390 ?_
                  obtain ⟨n99, h⟩ := z_gK_of h
                  obtain ⟨p101, he100, h⟩ := z_bind h
                  refine v_callV o yw_X11_draft ln_7_60 wi_X11_draft ws_X11_draft hX (by decide) 11 rfl n99 (As := [.int (z_sx q ((a3 + (1 : Int32))).toNatClampNeg), .int (z_sx q ((a3 + (2 : Int32))).toNatClampNeg), .int (z_sx q ((a3 + (3 : Int32))).toNatClampNeg)]) rfl rfl (Nat.le_of_ble_eq_true rfl) (e_X11_draft n99 he100) dL_law_391 ?_
                  refine v_icmp_eq o 784 dL_law_394 (by decide) (fun c102 => ?_) (fun c102 => ?_)
                  · replace h := z_ip c102 h
                    refine v_iinc o (a3 + (6 : Int32)) [(3, .int (a3 + (6 : Int32))), (0, .ref a0), (1, .ref (z_w q a1)), (2, .ref (z_w q a2))] dL_law_784 3 rfl rfl (by decide) rfl ?_
                    refine v_goto o 28 dL_law_787 (by decide) ?_
                    obtain rfl := z_some h
                    refine v_sub [1, 2, 3, 0] rfl ?_
                    exact hk
                  · replace h := z_in c102 h
                    obtain rfl := z_some h
                    refine v_sub [] rfl ?_
                    exact hk
                · replace h := z_in c89 h
                  by_cases c103 : ((z_sx q (a3).toNatClampNeg) &&& (31 : Int32)) = (7 : Int32)
                  · replace h := z_ip c103 h
                    refine v_tabAt o (7 : Int32) 399 dL_law_43 c103 (by decide) (by decide) rfl (by decide) ?_
                    refine v_aload_n o dL_law_399 rfl 1 rfl ?_
                    refine v_aload_n o dL_law_400 rfl 0 rfl ?_
                    refine v_iload_n o dL_law_401 rfl 3 rfl ?_
                    refine v_iconst o (1 : Int32) dL_law_402 (by decide) ?_
                    refine v_iadd o dL_law_403 ?_
                    obtain ⟨n104, h⟩ := z_gS_of h
                    refine v_sldP o hP n104 dL_law_404 ?_
                    obtain ⟨n105, h⟩ := z_gK_of h
                    obtain ⟨p107, he106, h⟩ := z_bind h
                    refine v_callV o yw_X10_sign ln_3_137 wi_X10_sign ws_X10_sign hX (by decide) 10 rfl n105 (As := [.int (z_sx q ((a3 + (1 : Int32))).toNatClampNeg)]) rfl rfl (Nat.le_of_ble_eq_true rfl) (e_X10_sign n105 he106) dL_law_405 ?_
                    refine v_aload_n o dL_law_408 rfl 2 rfl ?_
                    refine v_aload_n o dL_law_409 rfl 0 rfl ?_
                    refine v_iload_n o dL_law_410 rfl 3 rfl ?_
                    refine v_iconst o (1 : Int32) dL_law_411 (by decide) ?_
                    refine v_iadd o dL_law_412 ?_
                    obtain ⟨n108, h⟩ := z_gS_of h
                    refine v_sldP o hP n108 dL_law_413 ?_
                    obtain ⟨n109, h⟩ := z_gK_of h
                    obtain ⟨p111, he110, h⟩ := z_bind h
                    refine v_callV o yw_X11_sign ln_7_83 wi_X11_sign ws_X11_sign hX (by decide) 11 rfl n109 (As := [.int (z_sx q ((a3 + (1 : Int32))).toNatClampNeg)]) rfl rfl (Nat.le_of_ble_eq_true rfl) (e_X11_sign n109 he110) dL_law_414 ?_
                    refine v_icmp_eq o 784 dL_law_417 (by decide) (fun c112 => ?_) (fun c112 => ?_)
                    · replace h := z_ip c112 h
                      refine v_iinc o (a3 + (6 : Int32)) [(3, .int (a3 + (6 : Int32))), (0, .ref a0), (1, .ref (z_w q a1)), (2, .ref (z_w q a2))] dL_law_784 3 rfl rfl (by decide) rfl ?_
                      refine v_goto o 28 dL_law_787 (by decide) ?_
                      obtain rfl := z_some h
                      refine v_sub [1, 2, 3, 0] rfl ?_
                      exact hk
                    · replace h := z_in c112 h
                      obtain rfl := z_some h
                      refine v_sub [] rfl ?_
                      exact hk
                  · replace h := z_in c103 h
                    by_cases c113 : ((z_sx q (a3).toNatClampNeg) &&& (31 : Int32)) = (8 : Int32)
                    · replace h := z_ip c113 h
                      refine v_tabAt o (8 : Int32) 422 dL_law_43 c113 (by decide) (by decide) rfl (by decide) ?_
                      refine v_aload_n o dL_law_422 rfl 1 rfl ?_
                      obtain ⟨n114, h⟩ := z_gK_of h
                      obtain ⟨p116, he115, h⟩ := z_bind h
                      refine v_callV o yw_X10_show ln_3_153 wi_X10_show ws_X10_show hX (by decide) 10 rfl n114 (As := []) rfl rfl (Nat.le_of_ble_eq_true rfl) (e_X10_show n114 he115) dL_law_423 ?_
                      refine v_aload_n o dL_law_426 rfl 2 rfl ?_
                      obtain ⟨n117, h⟩ := z_gK_of h
                      obtain ⟨p119, he118, h⟩ := z_bind h
                      refine v_callV o yw_X11_show ln_7_87 wi_X11_show ws_X11_show hX (by decide) 11 rfl n117 (As := []) rfl rfl (Nat.le_of_ble_eq_true rfl) (e_X11_show n117 he118) dL_law_427 ?_
                      refine v_icmp_eq o 784 dL_law_430 (by decide) (fun c120 => ?_) (fun c120 => ?_)
                      · replace h := z_ip c120 h
                        refine v_iinc o (a3 + (6 : Int32)) [(3, .int (a3 + (6 : Int32))), (0, .ref a0), (1, .ref (z_w q a1)), (2, .ref (z_w q a2))] dL_law_784 3 rfl rfl (by decide) rfl ?_
                        refine v_goto o 28 dL_law_787 (by decide) ?_
                        obtain rfl := z_some h
                        refine v_sub [1, 2, 3, 0] rfl ?_
                        exact hk
                      · replace h := z_in c120 h
                        obtain rfl := z_some h
                        refine v_sub [] rfl ?_
                        exact hk
                    · replace h := z_in c113 h
                      by_cases c121 : ((z_sx q (a3).toNatClampNeg) &&& (31 : Int32)) = (9 : Int32)
                      · replace h := z_ip c121 h
                        refine v_tabAt o (9 : Int32) 435 dL_law_43 c121 (by decide) (by decide) rfl (by decide) ?_
                        refine v_aload_n o dL_law_435 rfl 1 rfl ?_
                        refine v_aload_n o dL_law_436 rfl 0 rfl ?_
                        refine v_iload_n o dL_law_437 rfl 3 rfl ?_
                        refine v_iconst o (1 : Int32) dL_law_438 (by decide) ?_
                        refine v_iadd o dL_law_439 ?_
                        obtain ⟨n122, h⟩ := z_gS_of h
                        refine v_sldP o hP n122 dL_law_440 ?_
                        refine v_aload_n o dL_law_441 rfl 0 rfl ?_
                        refine v_iload_n o dL_law_442 rfl 3 rfl ?_
                        refine v_iconst o (2 : Int32) dL_law_443 (by decide) ?_
                        refine v_iadd o dL_law_444 ?_
                        obtain ⟨n123, h⟩ := z_gS_of h
                        refine v_sldP o hP n123 dL_law_445 ?_
                        obtain ⟨n124, h⟩ := z_gK_of h
                        obtain ⟨p126, he125, h⟩ := z_bind h
                        refine v_callV o yw_X10_piece ln_3_166 wi_X10_piece ws_X10_piece hX (by decide) 10 rfl n124 (As := [.int (z_sx q ((a3 + (1 : Int32))).toNatClampNeg), .int (z_sx q ((a3 + (2 : Int32))).toNatClampNeg)]) rfl rfl (Nat.le_of_ble_eq_true rfl) (e_X10_piece n124 he125) dL_law_446 ?_
                        refine v_aload_n o dL_law_449 rfl 2 rfl ?_
                        refine v_aload_n o dL_law_450 rfl 0 rfl ?_
                        refine v_iload_n o dL_law_451 rfl 3 rfl ?_
                        refine v_iconst o (1 : Int32) dL_law_452 (by decide) ?_
                        refine v_iadd o dL_law_453 ?_
                        obtain ⟨n127, h⟩ := z_gS_of h
                        refine v_sldP o hP n127 dL_law_454 ?_
                        refine v_aload_n o dL_law_455 rfl 0 rfl ?_
                        refine v_iload_n o dL_law_456 rfl 3 rfl ?_
                        refine v_iconst o (2 : Int32) dL_law_457 (by decide) ?_
                        refine v_iadd o dL_law_458 ?_
                        obtain ⟨n128, h⟩ := z_gS_of h
                        refine v_sldP o hP n128 dL_law_459 ?_
                        obtain ⟨n129, h⟩ := z_gK_of h
                        obtain ⟨p131, he130, h⟩ := z_bind h
                        refine v_callV o yw_X11_piece ln_7_91 wi_X11_piece ws_X11_piece hX (by decide) 11 rfl n129 (As := [.int (z_sx q ((a3 + (1 : Int32))).toNatClampNeg), .int (z_sx q ((a3 + (2 : Int32))).toNatClampNeg)]) rfl rfl (Nat.le_of_ble_eq_true rfl) (e_X11_piece n129 he130) dL_law_460 ?_
                        refine v_icmp_eq o 784 dL_law_463 (by decide) (fun c132 => ?_) (fun c132 => ?_)
                        · replace h := z_ip c132 h
                          refine v_iinc o (a3 + (6 : Int32)) [(3, .int (a3 + (6 : Int32))), (0, .ref a0), (1, .ref (z_w q a1)), (2, .ref (z_w q a2))] dL_law_784 3 rfl rfl (by decide) rfl ?_
                          refine v_goto o 28 dL_law_787 (by decide) ?_
                          obtain rfl := z_some h
                          refine v_sub [1, 2, 3, 0] rfl ?_
                          exact hk
                        · replace h := z_in c132 h
                          obtain rfl := z_some h
                          refine v_sub [] rfl ?_
                          exact hk
                      · replace h := z_in c121 h
                        by_cases c133 : ((z_sx q (a3).toNatClampNeg) &&& (31 : Int32)) = (10 : Int32)
                        · replace h := z_ip c133 h
                          refine v_tabAt o (10 : Int32) 468 dL_law_43 c133 (by decide) (by decide) rfl (by decide) ?_
                          refine v_aload_n o dL_law_468 rfl 1 rfl ?_
                          refine v_aload_n o dL_law_469 rfl 0 rfl ?_
                          refine v_iload_n o dL_law_470 rfl 3 rfl ?_
                          refine v_iconst o (1 : Int32) dL_law_471 (by decide) ?_
                          refine v_iadd o dL_law_472 ?_
                          obtain ⟨n134, h⟩ := z_gS_of h
                          refine v_sldP o hP n134 dL_law_473 ?_
                          refine v_aload_n o dL_law_474 rfl 0 rfl ?_
                          refine v_iload_n o dL_law_475 rfl 3 rfl ?_
                          refine v_iconst o (2 : Int32) dL_law_476 (by decide) ?_
                          refine v_iadd o dL_law_477 ?_
                          obtain ⟨n135, h⟩ := z_gS_of h
                          refine v_sldP o hP n135 dL_law_478 ?_
                          obtain ⟨n136, h⟩ := z_gK_of h
                          obtain ⟨p138, he137, h⟩ := z_bind h
                          refine v_callV o yw_X10_spoil ln_3_175 wi_X10_spoil ws_X10_spoil hX (by decide) 10 rfl n136 (As := [.int (z_sx q ((a3 + (1 : Int32))).toNatClampNeg), .int (z_sx q ((a3 + (2 : Int32))).toNatClampNeg)]) rfl rfl (Nat.le_of_ble_eq_true rfl) (e_X10_spoil n136 he137) dL_law_479 ?_
                          refine v_aload_n o dL_law_482 rfl 2 rfl ?_
                          refine v_aload_n o dL_law_483 rfl 0 rfl ?_
                          refine v_iload_n o dL_law_484 rfl 3 rfl ?_
                          refine v_iconst o (1 : Int32) dL_law_485 (by decide) ?_
                          refine v_iadd o dL_law_486 ?_
                          obtain ⟨n139, h⟩ := z_gS_of h
                          refine v_sldP o hP n139 dL_law_487 ?_
                          refine v_aload_n o dL_law_488 rfl 0 rfl ?_
                          refine v_iload_n o dL_law_489 rfl 3 rfl ?_
                          refine v_iconst o (2 : Int32) dL_law_490 (by decide) ?_
                          refine v_iadd o dL_law_491 ?_
                          obtain ⟨n140, h⟩ := z_gS_of h
                          refine v_sldP o hP n140 dL_law_492 ?_
                          obtain ⟨n141, h⟩ := z_gK_of h
                          obtain ⟨p143, he142, h⟩ := z_bind h
                          refine v_callV o yw_X11_spoil ln_6_93 wi_X11_spoil ws_X11_spoil hX (by decide) 11 rfl n141 (As := [.int (z_sx q ((a3 + (1 : Int32))).toNatClampNeg), .int (z_sx q ((a3 + (2 : Int32))).toNatClampNeg)]) rfl rfl (Nat.le_of_ble_eq_true rfl) (e_X11_spoil n141 he142) dL_law_493 ?_
                          refine v_icmp_eq o 784 dL_law_496 (by decide) (fun c144 => ?_) (fun c144 => ?_)
                          · replace h := z_ip c144 h
                            refine v_iinc o (a3 + (6 : Int32)) [(3, .int (a3 + (6 : Int32))), (0, .ref a0), (1, .ref (z_w q a1)), (2, .ref (z_w q a2))] dL_law_784 3 rfl rfl (by decide) rfl ?_
                            refine v_goto o 28 dL_law_787 (by decide) ?_
                            obtain rfl := z_some h
                            refine v_sub [1, 2, 3, 0] rfl ?_
                            exact hk
                          · replace h := z_in c144 h
                            obtain rfl := z_some h
                            refine v_sub [] rfl ?_
                            exact hk
                        · replace h := z_in c133 h
                          by_cases c145 : ((z_sx q (a3).toNatClampNeg) &&& (31 : Int32)) = (11 : Int32)
                          · replace h := z_ip c145 h
                            refine v_tabAt o (11 : Int32) 501 dL_law_43 c145 (by decide) (by decide) rfl (by decide) ?_
                            refine v_aload_n o dL_law_501 rfl 1 rfl ?_
                            refine v_aload_n o dL_law_502 rfl 0 rfl ?_
                            refine v_iload_n o dL_law_503 rfl 3 rfl ?_
                            refine v_iconst o (1 : Int32) dL_law_504 (by decide) ?_
                            refine v_iadd o dL_law_505 ?_
                            obtain ⟨n146, h⟩ := z_gS_of h
                            refine v_sldP o hP n146 dL_law_506 ?_
                            obtain ⟨n147, h⟩ := z_gK_of h
                            obtain ⟨p149, he148, h⟩ := z_bind h
                            refine v_callV o yw_X10_begin ln_3_180 wi_X10_begin ws_X10_begin hX (by decide) 10 rfl n147 (As := [.int (z_sx q ((a3 + (1 : Int32))).toNatClampNeg)]) rfl rfl (Nat.le_of_ble_eq_true rfl) (e_X10_begin n147 he148) dL_law_507 ?_
                            refine v_aload_n o dL_law_510 rfl 2 rfl ?_
                            refine v_aload_n o dL_law_511 rfl 0 rfl ?_
                            refine v_iload_n o dL_law_512 rfl 3 rfl ?_
                            refine v_iconst o (1 : Int32) dL_law_513 (by decide) ?_
                            refine v_iadd o dL_law_514 ?_
                            obtain ⟨n150, h⟩ := z_gS_of h
                            refine v_sldP o hP n150 dL_law_515 ?_
                            obtain ⟨n151, h⟩ := z_gK_of h
                            obtain ⟨p153, he152, h⟩ := z_bind h
                            refine v_callV o yw_X11_begin ln_6_105 wi_X11_begin ws_X11_begin hX (by decide) 11 rfl n151 (As := [.int (z_sx q ((a3 + (1 : Int32))).toNatClampNeg)]) rfl rfl (Nat.le_of_ble_eq_true rfl) (e_X11_begin n151 he152) dL_law_516 ?_
                            refine v_icmp_eq o 784 dL_law_519 (by decide) (fun c154 => ?_) (fun c154 => ?_)
                            · replace h := z_ip c154 h
                              refine v_iinc o (a3 + (6 : Int32)) [(3, .int (a3 + (6 : Int32))), (0, .ref a0), (1, .ref (z_w q a1)), (2, .ref (z_w q a2))] dL_law_784 3 rfl rfl (by decide) rfl ?_
                              refine v_goto o 28 dL_law_787 (by decide) ?_
                              obtain rfl := z_some h
                              refine v_sub [1, 2, 3, 0] rfl ?_
                              exact hk
                            · replace h := z_in c154 h
                              obtain rfl := z_some h
                              refine v_sub [] rfl ?_
                              exact hk
                          · replace h := z_in c145 h
                            by_cases c155 : ((z_sx q (a3).toNatClampNeg) &&& (31 : Int32)) = (12 : Int32)
                            · replace h := z_ip c155 h
                              refine v_tabAt o (12 : Int32) 524 dL_law_43 c155 (by decide) (by decide) rfl (by decide) ?_
                              refine v_aload_n o dL_law_524 rfl 1 rfl ?_
                              obtain ⟨n156, h⟩ := z_gK_of h
                              obtain ⟨p158, he157, h⟩ := z_bind h
                              refine v_callV o yw_X10_answer ln_3_200 wi_X10_answer ws_X10_answer hX (by decide) 10 rfl n156 (As := []) rfl rfl (Nat.le_of_ble_eq_true rfl) (e_X10_answer n156 he157) dL_law_525 ?_
                              refine v_aload_n o dL_law_528 rfl 2 rfl ?_
                              obtain ⟨n159, h⟩ := z_gK_of h
                              obtain ⟨p161, he160, h⟩ := z_bind h
                              refine v_callV o yw_X11_answer ln_6_109 wi_X11_answer ws_X11_answer hX (by decide) 11 rfl n159 (As := []) rfl rfl (Nat.le_of_ble_eq_true rfl) (e_X11_answer n159 he160) dL_law_529 ?_
                              refine v_icmp_eq o 784 dL_law_532 (by decide) (fun c162 => ?_) (fun c162 => ?_)
                              · replace h := z_ip c162 h
                                refine v_iinc o (a3 + (6 : Int32)) [(3, .int (a3 + (6 : Int32))), (0, .ref a0), (1, .ref (z_w q a1)), (2, .ref (z_w q a2))] dL_law_784 3 rfl rfl (by decide) rfl ?_
                                refine v_goto o 28 dL_law_787 (by decide) ?_
                                obtain rfl := z_some h
                                refine v_sub [1, 2, 3, 0] rfl ?_
                                exact hk
                              · replace h := z_in c162 h
                                obtain rfl := z_some h
                                refine v_sub [] rfl ?_
                                exact hk
                            · replace h := z_in c155 h
                              by_cases c163 : ((z_sx q (a3).toNatClampNeg) &&& (31 : Int32)) = (13 : Int32)
                              · replace h := z_ip c163 h
                                refine v_tabAt o (13 : Int32) 537 dL_law_43 c163 (by decide) (by decide) rfl (by decide) ?_
                                refine v_aload_n o dL_law_537 rfl 1 rfl ?_
                                obtain ⟨n164, h⟩ := z_gK_of h
                                obtain ⟨p166, he165, h⟩ := z_bind h
                                refine v_callV o yw_X10_refuse ln_4_168 wi_X10_refuse ws_X10_refuse hX (by decide) 10 rfl n164 (As := []) rfl rfl (Nat.le_of_ble_eq_true rfl) (e_X10_refuse n164 he165) dL_law_538 ?_
                                refine v_aload_n o dL_law_541 rfl 2 rfl ?_
                                obtain ⟨n167, h⟩ := z_gK_of h
                                obtain ⟨p169, he168, h⟩ := z_bind h
                                refine v_callV o yw_X11_refuse ln_7_11 wi_X11_refuse ws_X11_refuse hX (by decide) 11 rfl n167 (As := []) rfl rfl (Nat.le_of_ble_eq_true rfl) (e_X11_refuse n167 he168) dL_law_542 ?_
                                refine v_icmp_eq o 784 dL_law_545 (by decide) (fun c170 => ?_) (fun c170 => ?_)
                                · replace h := z_ip c170 h
                                  refine v_iinc o (a3 + (6 : Int32)) [(3, .int (a3 + (6 : Int32))), (0, .ref a0), (1, .ref (z_w q a1)), (2, .ref (z_w q a2))] dL_law_784 3 rfl rfl (by decide) rfl ?_
                                  refine v_goto o 28 dL_law_787 (by decide) ?_
                                  obtain rfl := z_some h
                                  refine v_sub [1, 2, 3, 0] rfl ?_
                                  exact hk
                                · replace h := z_in c170 h
                                  obtain rfl := z_some h
                                  refine v_sub [] rfl ?_
                                  exact hk
                              · replace h := z_in c163 h
                                by_cases c171 : ((z_sx q (a3).toNatClampNeg) &&& (31 : Int32)) = (14 : Int32)
                                · replace h := z_ip c171 h
                                  refine v_tabAt o (14 : Int32) 550 dL_law_43 c171 (by decide) (by decide) rfl (by decide) ?_
                                  refine v_aload_n o dL_law_550 rfl 1 rfl ?_
                                  refine v_aload_n o dL_law_551 rfl 0 rfl ?_
                                  refine v_iload_n o dL_law_552 rfl 3 rfl ?_
                                  refine v_iconst o (1 : Int32) dL_law_553 (by decide) ?_
                                  refine v_iadd o dL_law_554 ?_
                                  obtain ⟨n172, h⟩ := z_gS_of h
                                  refine v_sldP o hP n172 dL_law_555 ?_
                                  obtain ⟨n173, h⟩ := z_gK_of h
                                  obtain ⟨r175, he174, h⟩ := z_bind h
                                  refine v_callV o yw_X10_awaits ln_4_176 wi_X10_awaits ws_X10_awaits hX (by decide) 10 rfl n173 (As := [.int (z_sx q ((a3 + (1 : Int32))).toNatClampNeg)]) rfl rfl (Nat.le_of_ble_eq_true rfl) (e_X10_awaits n173 he174) dL_law_556 ?_
                                  refine v_aload_n o dL_law_559 rfl 2 rfl ?_
                                  refine v_aload_n o dL_law_560 rfl 0 rfl ?_
                                  refine v_iload_n o dL_law_561 rfl 3 rfl ?_
                                  refine v_iconst o (1 : Int32) dL_law_562 (by decide) ?_
                                  refine v_iadd o dL_law_563 ?_
                                  obtain ⟨n176, h⟩ := z_gS_of h
                                  refine v_sldP o hP n176 dL_law_564 ?_
                                  obtain ⟨n177, h⟩ := z_gK_of h
                                  obtain ⟨p179, he178, h⟩ := z_bind h
                                  refine v_callV o yw_X11_awaits ln_7_15 wi_X11_awaits ws_X11_awaits hX (by decide) 11 rfl n177 (As := [.int (z_sx q ((a3 + (1 : Int32))).toNatClampNeg)]) rfl rfl (Nat.le_of_ble_eq_true rfl) (e_X11_awaits n177 he178) dL_law_565 ?_
                                  refine v_icmp_eq o 784 dL_law_568 (by decide) (fun c180 => ?_) (fun c180 => ?_)
                                  · replace h := z_ip c180 h
                                    refine v_iinc o (a3 + (6 : Int32)) [(3, .int (a3 + (6 : Int32))), (0, .ref a0), (1, .ref (z_w q a1)), (2, .ref (z_w q a2))] dL_law_784 3 rfl rfl (by decide) rfl ?_
                                    refine v_goto o 28 dL_law_787 (by decide) ?_
                                    obtain rfl := z_some h
                                    refine v_sub [1, 2, 3, 0] rfl ?_
                                    exact hk
                                  · replace h := z_in c180 h
                                    obtain rfl := z_some h
                                    refine v_sub [] rfl ?_
                                    exact hk
                                · replace h := z_in c171 h
                                  by_cases c181 : ((z_sx q (a3).toNatClampNeg) &&& (31 : Int32)) = (15 : Int32)
                                  · replace h := z_ip c181 h
                                    refine v_tabAt o (15 : Int32) 573 dL_law_43 c181 (by decide) (by decide) rfl (by decide) ?_
                                    refine v_aload_n o dL_law_573 rfl 1 rfl ?_
                                    obtain ⟨n182, h⟩ := z_gK_of h
                                    obtain ⟨p184, he183, h⟩ := z_bind h
                                    refine v_callV o yw_X10_stop ln_4_184 wi_X10_stop ws_X10_stop hX (by decide) 10 rfl n182 (As := []) rfl rfl (Nat.le_of_ble_eq_true rfl) (e_X10_stop n182 he183) dL_law_574 ?_
                                    refine v_aload_n o dL_law_577 rfl 2 rfl ?_
                                    obtain ⟨n185, h⟩ := z_gK_of h
                                    obtain ⟨p187, he186, h⟩ := z_bind h
                                    refine v_callV o yw_X11_stop ln_7_19 wi_X11_stop ws_X11_stop hX (by decide) 11 rfl n185 (As := []) rfl rfl (Nat.le_of_ble_eq_true rfl) (e_X11_stop n185 he186) dL_law_578 ?_
                                    refine v_icmp_eq o 784 dL_law_581 (by decide) (fun c188 => ?_) (fun c188 => ?_)
                                    · replace h := z_ip c188 h
                                      refine v_iinc o (a3 + (6 : Int32)) [(3, .int (a3 + (6 : Int32))), (0, .ref a0), (1, .ref (z_w q a1)), (2, .ref (z_w q a2))] dL_law_784 3 rfl rfl (by decide) rfl ?_
                                      refine v_goto o 28 dL_law_787 (by decide) ?_
                                      obtain rfl := z_some h
                                      refine v_sub [1, 2, 3, 0] rfl ?_
                                      exact hk
                                    · replace h := z_in c188 h
                                      obtain rfl := z_some h
                                      refine v_sub [] rfl ?_
                                      exact hk
                                  · replace h := z_in c181 h
                                    by_cases c189 : ((z_sx q (a3).toNatClampNeg) &&& (31 : Int32)) = (16 : Int32)
                                    · replace h := z_ip c189 h
                                      refine v_tabAt o (16 : Int32) 586 dL_law_43 c189 (by decide) (by decide) rfl (by decide) ?_
                                      refine v_aload_n o dL_law_586 rfl 1 rfl ?_
                                      refine v_aload_n o dL_law_587 rfl 0 rfl ?_
                                      refine v_iload_n o dL_law_588 rfl 3 rfl ?_
                                      refine v_iconst o (1 : Int32) dL_law_589 (by decide) ?_
                                      refine v_iadd o dL_law_590 ?_
                                      obtain ⟨n190, h⟩ := z_gS_of h
                                      refine v_sldP o hP n190 dL_law_591 ?_
                                      refine v_aload_n o dL_law_592 rfl 0 rfl ?_
                                      refine v_iload_n o dL_law_593 rfl 3 rfl ?_
                                      refine v_iconst o (2 : Int32) dL_law_594 (by decide) ?_
                                      refine v_iadd o dL_law_595 ?_
                                      obtain ⟨n191, h⟩ := z_gS_of h
                                      refine v_sldP o hP n191 dL_law_596 ?_
                                      obtain ⟨n192, h⟩ := z_gK_of h
                                      obtain ⟨p194, he193, h⟩ := z_bind h
                                      refine v_callV o yw_X10_power ln_4_188 wi_X10_power ws_X10_power hX (by decide) 10 rfl n192 (As := [.int (z_sx q ((a3 + (1 : Int32))).toNatClampNeg), .int (z_sx q ((a3 + (2 : Int32))).toNatClampNeg)]) rfl rfl (Nat.le_of_ble_eq_true rfl) (e_X10_power n192 he193) dL_law_597 ?_
                                      refine v_aload_n o dL_law_600 rfl 2 rfl ?_
                                      refine v_aload_n o dL_law_601 rfl 0 rfl ?_
                                      refine v_iload_n o dL_law_602 rfl 3 rfl ?_
                                      refine v_iconst o (1 : Int32) dL_law_603 (by decide) ?_
                                      refine v_iadd o dL_law_604 ?_
                                      obtain ⟨n195, h⟩ := z_gS_of h
                                      refine v_sldP o hP n195 dL_law_605 ?_
                                      refine v_aload_n o dL_law_606 rfl 0 rfl ?_
                                      refine v_iload_n o dL_law_607 rfl 3 rfl ?_
                                      refine v_iconst o (2 : Int32) dL_law_608 (by decide) ?_
                                      refine v_iadd o dL_law_609 ?_
                                      obtain ⟨n196, h⟩ := z_gS_of h
                                      refine v_sldP o hP n196 dL_law_610 ?_
                                      obtain ⟨n197, h⟩ := z_gK_of h
                                      obtain ⟨p199, he198, h⟩ := z_bind h
                                      refine v_callV o yw_X11_power ln_7_23 wi_X11_power ws_X11_power hX (by decide) 11 rfl n197 (As := [.int (z_sx q ((a3 + (1 : Int32))).toNatClampNeg), .int (z_sx q ((a3 + (2 : Int32))).toNatClampNeg)]) rfl rfl (Nat.le_of_ble_eq_true rfl) (e_X11_power n197 he198) dL_law_611 ?_
                                      refine v_icmp_eq o 784 dL_law_614 (by decide) (fun c200 => ?_) (fun c200 => ?_)
                                      · replace h := z_ip c200 h
                                        refine v_iinc o (a3 + (6 : Int32)) [(3, .int (a3 + (6 : Int32))), (0, .ref a0), (1, .ref (z_w q a1)), (2, .ref (z_w q a2))] dL_law_784 3 rfl rfl (by decide) rfl ?_
                                        refine v_goto o 28 dL_law_787 (by decide) ?_
                                        obtain rfl := z_some h
                                        refine v_sub [1, 2, 3, 0] rfl ?_
                                        exact hk
                                      · replace h := z_in c200 h
                                        obtain rfl := z_some h
                                        refine v_sub [] rfl ?_
                                        exact hk
                                    · replace h := z_in c189 h
                                      by_cases c201 : ((z_sx q (a3).toNatClampNeg) &&& (31 : Int32)) = (17 : Int32)
                                      · replace h := z_ip c201 h
                                        refine v_tabAt o (17 : Int32) 619 dL_law_43 c201 (by decide) (by decide) rfl (by decide) ?_
                                        refine v_aload_n o dL_law_619 rfl 1 rfl ?_
                                        obtain ⟨n202, h⟩ := z_gK_of h
                                        obtain ⟨p204, he203, h⟩ := z_bind h
                                        refine v_callV o yw_X10_boot ln_4_196 wi_X10_boot ws_X10_boot hX (by decide) 10 rfl n202 (As := []) rfl rfl (Nat.le_of_ble_eq_true rfl) (e_X10_boot n202 he203) dL_law_620 ?_
                                        refine v_aload_n o dL_law_623 rfl 2 rfl ?_
                                        obtain ⟨n205, h⟩ := z_gK_of h
                                        obtain ⟨p207, he206, h⟩ := z_bind h
                                        refine v_callV o yw_X11_boot ln_7_27 wi_X11_boot ws_X11_boot hX (by decide) 11 rfl n205 (As := []) rfl rfl (Nat.le_of_ble_eq_true rfl) (e_X11_boot n205 he206) dL_law_624 ?_
                                        refine v_icmp_eq o 784 dL_law_627 (by decide) (fun c208 => ?_) (fun c208 => ?_)
                                        · replace h := z_ip c208 h
                                          refine v_iinc o (a3 + (6 : Int32)) [(3, .int (a3 + (6 : Int32))), (0, .ref a0), (1, .ref (z_w q a1)), (2, .ref (z_w q a2))] dL_law_784 3 rfl rfl (by decide) rfl ?_
                                          refine v_goto o 28 dL_law_787 (by decide) ?_
                                          obtain rfl := z_some h
                                          refine v_sub [1, 2, 3, 0] rfl ?_
                                          exact hk
                                        · replace h := z_in c208 h
                                          obtain rfl := z_some h
                                          refine v_sub [] rfl ?_
                                          exact hk
                                      · replace h := z_in c201 h
                                        by_cases c209 : ((z_sx q (a3).toNatClampNeg) &&& (31 : Int32)) = (18 : Int32)
                                        · replace h := z_ip c209 h
                                          refine v_tabAt o (18 : Int32) 632 dL_law_43 c209 (by decide) (by decide) rfl (by decide) ?_
                                          refine v_aload_n o dL_law_632 rfl 1 rfl ?_
                                          refine v_aload_n o dL_law_633 rfl 0 rfl ?_
                                          refine v_iload_n o dL_law_634 rfl 3 rfl ?_
                                          refine v_iconst o (1 : Int32) dL_law_635 (by decide) ?_
                                          refine v_iadd o dL_law_636 ?_
                                          obtain ⟨n210, h⟩ := z_gS_of h
                                          refine v_sldP o hP n210 dL_law_637 ?_
                                          refine v_if_eq o 645 dL_law_638 (by decide) (fun c211 => ?_) (fun c211 => ?_)
                                          · replace h := z_ip c211 h
                                            refine v_iconst o (0 : Int32) dL_law_645 (by decide) ?_
                                            obtain ⟨n212, h⟩ := z_gK_of h
                                            obtain ⟨p214, he213, h⟩ := z_bind h
                                            refine v_callV o yw_X10_test ln_4_222 wi_X10_test ws_X10_test hX (by decide) 10 rfl n212 (As := [.int (0 : Int32)]) rfl rfl (Nat.le_of_ble_eq_true rfl) (e_X10_test n212 he213) dL_law_646 ?_
                                            refine v_aload_n o dL_law_649 rfl 2 rfl ?_
                                            refine v_aload_n o dL_law_650 rfl 0 rfl ?_
                                            refine v_iload_n o dL_law_651 rfl 3 rfl ?_
                                            refine v_iconst o (1 : Int32) dL_law_652 (by decide) ?_
                                            refine v_iadd o dL_law_653 ?_
                                            obtain ⟨n215, h⟩ := z_gS_of h
                                            refine v_sldP o hP n215 dL_law_654 ?_
                                            refine v_if_eq o 662 dL_law_655 (by decide) (fun c216 => ?_) (fun c216 => ?_)
                                            · replace h := z_ip c216 h
                                              refine v_iconst o (0 : Int32) dL_law_662 (by decide) ?_
                                              obtain ⟨n217, h⟩ := z_gK_of h
                                              obtain ⟨p219, he218, h⟩ := z_bind h
                                              refine v_callV o yw_X11_test ln_7_35 wi_X11_test ws_X11_test hX (by decide) 11 rfl n217 (As := [.int (0 : Int32)]) rfl rfl (Nat.le_of_ble_eq_true rfl) (e_X11_test n217 he218) dL_law_663 ?_
                                              refine v_icmp_eq o 784 dL_law_666 (by decide) (fun c220 => ?_) (fun c220 => ?_)
                                              · replace h := z_ip c220 h
                                                refine v_iinc o (a3 + (6 : Int32)) [(3, .int (a3 + (6 : Int32))), (0, .ref a0), (1, .ref (z_w q a1)), (2, .ref (z_w q a2))] dL_law_784 3 rfl rfl (by decide) rfl ?_
                                                refine v_goto o 28 dL_law_787 (by decide) ?_
                                                obtain rfl := z_some h
                                                refine v_sub [1, 2, 3, 0] rfl ?_
                                                exact hk
                                              · replace h := z_in c220 h
                                                obtain rfl := z_some h
                                                refine v_sub [] rfl ?_
                                                exact hk
                                            · replace h := z_in c216 h
                                              refine v_iconst o (1 : Int32) dL_law_658 (by decide) ?_
                                              refine v_goto o 663 dL_law_659 (by decide) ?_
                                              obtain ⟨n221, h⟩ := z_gK_of h
                                              obtain ⟨p223, he222, h⟩ := z_bind h
                                              refine v_callV o yw_X11_test ln_7_35 wi_X11_test ws_X11_test hX (by decide) 11 rfl n221 (As := [.int (1 : Int32)]) rfl rfl (Nat.le_of_ble_eq_true rfl) (e_X11_test n221 he222) dL_law_663 ?_
                                              refine v_icmp_eq o 784 dL_law_666 (by decide) (fun c224 => ?_) (fun c224 => ?_)
                                              · replace h := z_ip c224 h
                                                refine v_iinc o (a3 + (6 : Int32)) [(3, .int (a3 + (6 : Int32))), (0, .ref a0), (1, .ref (z_w q a1)), (2, .ref (z_w q a2))] dL_law_784 3 rfl rfl (by decide) rfl ?_
                                                refine v_goto o 28 dL_law_787 (by decide) ?_
                                                obtain rfl := z_some h
                                                refine v_sub [1, 2, 3, 0] rfl ?_
                                                exact hk
                                              · replace h := z_in c224 h
                                                obtain rfl := z_some h
                                                refine v_sub [] rfl ?_
                                                exact hk
                                          · replace h := z_in c211 h
                                            refine v_iconst o (1 : Int32) dL_law_641 (by decide) ?_
                                            refine v_goto o 646 dL_law_642 (by decide) ?_
                                            obtain ⟨n225, h⟩ := z_gK_of h
                                            obtain ⟨p227, he226, h⟩ := z_bind h
                                            refine v_callV o yw_X10_test ln_4_222 wi_X10_test ws_X10_test hX (by decide) 10 rfl n225 (As := [.int (1 : Int32)]) rfl rfl (Nat.le_of_ble_eq_true rfl) (e_X10_test n225 he226) dL_law_646 ?_
                                            refine v_aload_n o dL_law_649 rfl 2 rfl ?_
                                            refine v_aload_n o dL_law_650 rfl 0 rfl ?_
                                            refine v_iload_n o dL_law_651 rfl 3 rfl ?_
                                            refine v_iconst o (1 : Int32) dL_law_652 (by decide) ?_
                                            refine v_iadd o dL_law_653 ?_
                                            obtain ⟨n228, h⟩ := z_gS_of h
                                            refine v_sldP o hP n228 dL_law_654 ?_
                                            refine v_if_eq o 662 dL_law_655 (by decide) (fun c229 => ?_) (fun c229 => ?_)
                                            · replace h := z_ip c229 h
                                              refine v_iconst o (0 : Int32) dL_law_662 (by decide) ?_
                                              obtain ⟨n230, h⟩ := z_gK_of h
                                              obtain ⟨p232, he231, h⟩ := z_bind h
                                              refine v_callV o yw_X11_test ln_7_35 wi_X11_test ws_X11_test hX (by decide) 11 rfl n230 (As := [.int (0 : Int32)]) rfl rfl (Nat.le_of_ble_eq_true rfl) (e_X11_test n230 he231) dL_law_663 ?_
                                              refine v_icmp_eq o 784 dL_law_666 (by decide) (fun c233 => ?_) (fun c233 => ?_)
                                              · replace h := z_ip c233 h
                                                refine v_iinc o (a3 + (6 : Int32)) [(3, .int (a3 + (6 : Int32))), (0, .ref a0), (1, .ref (z_w q a1)), (2, .ref (z_w q a2))] dL_law_784 3 rfl rfl (by decide) rfl ?_
                                                refine v_goto o 28 dL_law_787 (by decide) ?_
                                                obtain rfl := z_some h
                                                refine v_sub [1, 2, 3, 0] rfl ?_
                                                exact hk
                                              · replace h := z_in c233 h
                                                obtain rfl := z_some h
                                                refine v_sub [] rfl ?_
                                                exact hk
                                            · replace h := z_in c229 h
                                              refine v_iconst o (1 : Int32) dL_law_658 (by decide) ?_
                                              refine v_goto o 663 dL_law_659 (by decide) ?_
                                              obtain ⟨n234, h⟩ := z_gK_of h
                                              obtain ⟨p236, he235, h⟩ := z_bind h
                                              refine v_callV o yw_X11_test ln_7_35 wi_X11_test ws_X11_test hX (by decide) 11 rfl n234 (As := [.int (1 : Int32)]) rfl rfl (Nat.le_of_ble_eq_true rfl) (e_X11_test n234 he235) dL_law_663 ?_
                                              refine v_icmp_eq o 784 dL_law_666 (by decide) (fun c237 => ?_) (fun c237 => ?_)
                                              · replace h := z_ip c237 h
                                                refine v_iinc o (a3 + (6 : Int32)) [(3, .int (a3 + (6 : Int32))), (0, .ref a0), (1, .ref (z_w q a1)), (2, .ref (z_w q a2))] dL_law_784 3 rfl rfl (by decide) rfl ?_
                                                refine v_goto o 28 dL_law_787 (by decide) ?_
                                                obtain rfl := z_some h
                                                refine v_sub [1, 2, 3, 0] rfl ?_
                                                exact hk
                                              · replace h := z_in c237 h
                                                obtain rfl := z_some h
                                                refine v_sub [] rfl ?_
                                                exact hk
                                        · replace h := z_in c209 h
                                          by_cases c238 : ((z_sx q (a3).toNatClampNeg) &&& (31 : Int32)) = (19 : Int32)
                                          · replace h := z_ip c238 h
                                            refine v_tabAt o (19 : Int32) 671 dL_law_43 c238 (by decide) (by decide) rfl (by decide) ?_
                                            refine v_aload_n o dL_law_671 rfl 1 rfl ?_
                                            refine v_aload_n o dL_law_672 rfl 0 rfl ?_
                                            refine v_iload_n o dL_law_673 rfl 3 rfl ?_
                                            refine v_iconst o (1 : Int32) dL_law_674 (by decide) ?_
                                            refine v_iadd o dL_law_675 ?_
                                            obtain ⟨n239, h⟩ := z_gS_of h
                                            refine v_sldP o hP n239 dL_law_676 ?_
                                            obtain ⟨n240, h⟩ := z_gK_of h
                                            obtain ⟨r242, he241, h⟩ := z_bind h
                                            refine v_callV o yw_X10_told ln_5_0 wi_X10_told ws_X10_told hX (by decide) 10 rfl n240 (As := [.int (z_sx q ((a3 + (1 : Int32))).toNatClampNeg)]) rfl rfl (Nat.le_of_ble_eq_true rfl) (e_X10_told n240 he241) dL_law_677 ?_
                                            refine v_aload_n o dL_law_680 rfl 2 rfl ?_
                                            refine v_aload_n o dL_law_681 rfl 0 rfl ?_
                                            refine v_iload_n o dL_law_682 rfl 3 rfl ?_
                                            refine v_iconst o (1 : Int32) dL_law_683 (by decide) ?_
                                            refine v_iadd o dL_law_684 ?_
                                            obtain ⟨n243, h⟩ := z_gS_of h
                                            refine v_sldP o hP n243 dL_law_685 ?_
                                            obtain ⟨n244, h⟩ := z_gK_of h
                                            obtain ⟨p246, he245, h⟩ := z_bind h
                                            refine v_callV o yw_X11_told ln_7_39 wi_X11_told ws_X11_told hX (by decide) 11 rfl n244 (As := [.int (z_sx q ((a3 + (1 : Int32))).toNatClampNeg)]) rfl rfl (Nat.le_of_ble_eq_true rfl) (e_X11_told n244 he245) dL_law_686 ?_
                                            refine v_icmp_eq o 784 dL_law_689 (by decide) (fun c247 => ?_) (fun c247 => ?_)
                                            · replace h := z_ip c247 h
                                              refine v_iinc o (a3 + (6 : Int32)) [(3, .int (a3 + (6 : Int32))), (0, .ref a0), (1, .ref (z_w q a1)), (2, .ref (z_w q a2))] dL_law_784 3 rfl rfl (by decide) rfl ?_
                                              refine v_goto o 28 dL_law_787 (by decide) ?_
                                              obtain rfl := z_some h
                                              refine v_sub [1, 2, 3, 0] rfl ?_
                                              exact hk
                                            · replace h := z_in c247 h
                                              obtain rfl := z_some h
                                              refine v_sub [] rfl ?_
                                              exact hk
                                          · replace h := z_in c238 h
                                            by_cases c248 : ((z_sx q (a3).toNatClampNeg) &&& (31 : Int32)) = (20 : Int32)
                                            · replace h := z_ip c248 h
                                              refine v_tabAt o (20 : Int32) 694 dL_law_43 c248 (by decide) (by decide) rfl (by decide) ?_
                                              refine v_aload_n o dL_law_694 rfl 1 rfl ?_
                                              refine v_aload_n o dL_law_695 rfl 0 rfl ?_
                                              refine v_iload_n o dL_law_696 rfl 3 rfl ?_
                                              refine v_iconst o (1 : Int32) dL_law_697 (by decide) ?_
                                              refine v_iadd o dL_law_698 ?_
                                              obtain ⟨n249, h⟩ := z_gS_of h
                                              refine v_sldP o hP n249 dL_law_699 ?_
                                              refine v_aload_n o dL_law_700 rfl 0 rfl ?_
                                              refine v_iload_n o dL_law_701 rfl 3 rfl ?_
                                              refine v_iconst o (2 : Int32) dL_law_702 (by decide) ?_
                                              refine v_iadd o dL_law_703 ?_
                                              obtain ⟨n250, h⟩ := z_gS_of h
                                              refine v_sldP o hP n250 dL_law_704 ?_
                                              refine v_aload_n o dL_law_705 rfl 0 rfl ?_
                                              refine v_iload_n o dL_law_706 rfl 3 rfl ?_
                                              refine v_iconst o (3 : Int32) dL_law_707 (by decide) ?_
                                              refine v_iadd o dL_law_708 ?_
                                              obtain ⟨n251, h⟩ := z_gS_of h
                                              refine v_sldP o hP n251 dL_law_709 ?_
                                              obtain ⟨n252, h⟩ := z_gK_of h
                                              obtain ⟨r254, he253, h⟩ := z_bind h
                                              refine v_callV o yw_X10_trusted ln_5_8 wi_X10_trusted ws_X10_trusted hX (by decide) 10 rfl n252 (As := [.int (z_sx q ((a3 + (1 : Int32))).toNatClampNeg), .int (z_sx q ((a3 + (2 : Int32))).toNatClampNeg), .int (z_sx q ((a3 + (3 : Int32))).toNatClampNeg)]) rfl rfl (Nat.le_of_ble_eq_true rfl) (e_X10_trusted n252 he253) dL_law_710 ?_
                                              refine v_aload_n o dL_law_713 rfl 2 rfl ?_
                                              refine v_aload_n o dL_law_714 rfl 0 rfl ?_
                                              refine v_iload_n o dL_law_715 rfl 3 rfl ?_
                                              refine v_iconst o (1 : Int32) dL_law_716 (by decide) ?_
                                              refine v_iadd o dL_law_717 ?_
                                              obtain ⟨n255, h⟩ := z_gS_of h
                                              refine v_sldP o hP n255 dL_law_718 ?_
                                              refine v_aload_n o dL_law_719 rfl 0 rfl ?_
                                              refine v_iload_n o dL_law_720 rfl 3 rfl ?_
                                              refine v_iconst o (2 : Int32) dL_law_721 (by decide) ?_
                                              refine v_iadd o dL_law_722 ?_
                                              obtain ⟨n256, h⟩ := z_gS_of h
                                              refine v_sldP o hP n256 dL_law_723 ?_
                                              refine v_aload_n o dL_law_724 rfl 0 rfl ?_
                                              refine v_iload_n o dL_law_725 rfl 3 rfl ?_
                                              refine v_iconst o (3 : Int32) dL_law_726 (by decide) ?_
                                              refine v_iadd o dL_law_727 ?_
                                              obtain ⟨n257, h⟩ := z_gS_of h
                                              refine v_sldP o hP n257 dL_law_728 ?_
                                              obtain ⟨n258, h⟩ := z_gK_of h
                                              obtain ⟨p260, he259, h⟩ := z_bind h
                                              refine v_callV o yw_X11_trusted ln_7_43 wi_X11_trusted ws_X11_trusted hX (by decide) 11 rfl n258 (As := [.int (z_sx q ((a3 + (1 : Int32))).toNatClampNeg), .int (z_sx q ((a3 + (2 : Int32))).toNatClampNeg), .int (z_sx q ((a3 + (3 : Int32))).toNatClampNeg)]) rfl rfl (Nat.le_of_ble_eq_true rfl) (e_X11_trusted n258 he259) dL_law_729 ?_
                                              refine v_icmp_eq o 784 dL_law_732 (by decide) (fun c261 => ?_) (fun c261 => ?_)
                                              · replace h := z_ip c261 h
                                                refine v_iinc o (a3 + (6 : Int32)) [(3, .int (a3 + (6 : Int32))), (0, .ref a0), (1, .ref (z_w q a1)), (2, .ref (z_w q a2))] dL_law_784 3 rfl rfl (by decide) rfl ?_
                                                refine v_goto o 28 dL_law_787 (by decide) ?_
                                                obtain rfl := z_some h
                                                refine v_sub [1, 2, 3, 0] rfl ?_
                                                exact hk
                                              · replace h := z_in c261 h
                                                obtain rfl := z_some h
                                                refine v_sub [] rfl ?_
                                                exact hk
                                            · replace h := z_in c248 h
                                              by_cases c262 : ((z_sx q (a3).toNatClampNeg) &&& (31 : Int32)) = (21 : Int32)
                                              · replace h := z_ip c262 h
                                                refine v_tabAt o (21 : Int32) 737 dL_law_43 c262 (by decide) (by decide) rfl (by decide) ?_
                                                refine v_aload_n o dL_law_737 rfl 1 rfl ?_
                                                refine v_aload_n o dL_law_738 rfl 0 rfl ?_
                                                refine v_iload_n o dL_law_739 rfl 3 rfl ?_
                                                refine v_iconst o (1 : Int32) dL_law_740 (by decide) ?_
                                                refine v_iadd o dL_law_741 ?_
                                                obtain ⟨n263, h⟩ := z_gS_of h
                                                refine v_sldP o hP n263 dL_law_742 ?_
                                                refine v_aload_n o dL_law_743 rfl 0 rfl ?_
                                                refine v_iload_n o dL_law_744 rfl 3 rfl ?_
                                                refine v_iconst o (2 : Int32) dL_law_745 (by decide) ?_
                                                refine v_iadd o dL_law_746 ?_
                                                obtain ⟨n264, h⟩ := z_gS_of h
                                                refine v_sldP o hP n264 dL_law_747 ?_
                                                obtain ⟨n265, h⟩ := z_gK_of h
                                                obtain ⟨r267, he266, h⟩ := z_bind h
                                                refine v_callV o yw_X10_flash ln_5_27 wi_X10_flash ws_X10_flash hX (by decide) 10 rfl n265 (As := [.int (z_sx q ((a3 + (1 : Int32))).toNatClampNeg), .int (z_sx q ((a3 + (2 : Int32))).toNatClampNeg)]) rfl rfl (Nat.le_of_ble_eq_true rfl) (e_X10_flash n265 he266) dL_law_748 ?_
                                                refine v_aload_n o dL_law_751 rfl 2 rfl ?_
                                                refine v_aload_n o dL_law_752 rfl 0 rfl ?_
                                                refine v_iload_n o dL_law_753 rfl 3 rfl ?_
                                                refine v_iconst o (1 : Int32) dL_law_754 (by decide) ?_
                                                refine v_iadd o dL_law_755 ?_
                                                obtain ⟨n268, h⟩ := z_gS_of h
                                                refine v_sldP o hP n268 dL_law_756 ?_
                                                refine v_aload_n o dL_law_757 rfl 0 rfl ?_
                                                refine v_iload_n o dL_law_758 rfl 3 rfl ?_
                                                refine v_iconst o (2 : Int32) dL_law_759 (by decide) ?_
                                                refine v_iadd o dL_law_760 ?_
                                                obtain ⟨n269, h⟩ := z_gS_of h
                                                refine v_sldP o hP n269 dL_law_761 ?_
                                                obtain ⟨n270, h⟩ := z_gK_of h
                                                obtain ⟨r272, he271, h⟩ := z_bind h
                                                refine v_callV o yw_X11_flash ln_6_101 wi_X11_flash ws_X11_flash hX (by decide) 11 rfl n270 (As := [.int (z_sx q ((a3 + (1 : Int32))).toNatClampNeg), .int (z_sx q ((a3 + (2 : Int32))).toNatClampNeg)]) rfl rfl (Nat.le_of_ble_eq_true rfl) (e_X11_flash n270 he271) dL_law_762 ?_
                                                refine v_icmp_eq o 784 dL_law_765 (by decide) (fun c273 => ?_) (fun c273 => ?_)
                                                · replace h := z_ip c273 h
                                                  refine v_iinc o (a3 + (6 : Int32)) [(3, .int (a3 + (6 : Int32))), (0, .ref a0), (1, .ref (z_w q a1)), (2, .ref (z_w q a2))] dL_law_784 3 rfl rfl (by decide) rfl ?_
                                                  refine v_goto o 28 dL_law_787 (by decide) ?_
                                                  obtain rfl := z_some h
                                                  refine v_sub [1, 2, 3, 0] rfl ?_
                                                  exact hk
                                                · replace h := z_in c273 h
                                                  obtain rfl := z_some h
                                                  refine v_sub [] rfl ?_
                                                  exact hk
                                              · replace h := z_in c262 h
                                                by_cases c274 : ((z_sx q (a3).toNatClampNeg) &&& (31 : Int32)) = (22 : Int32)
                                                · replace h := z_ip c274 h
                                                  refine v_tabAt o (22 : Int32) 770 dL_law_43 c274 (by decide) (by decide) rfl (by decide) ?_
                                                  refine v_aload_n o dL_law_770 rfl 1 rfl ?_
                                                  obtain ⟨n275, h⟩ := z_gK_of h
                                                  obtain ⟨r277, he276, h⟩ := z_bind h
                                                  refine v_callV o yw_X10_digest ln_5_31 wi_X10_digest ws_X10_digest hX (by decide) 10 rfl n275 (As := []) rfl rfl (Nat.le_of_ble_eq_true rfl) (e_X10_digest n275 he276) dL_law_771 ?_
                                                  refine v_aload_n o dL_law_774 rfl 2 rfl ?_
                                                  obtain ⟨n278, h⟩ := z_gK_of h
                                                  obtain ⟨p280, he279, h⟩ := z_bind h
                                                  refine v_callV o yw_X11_digest ln_6_97 wi_X11_digest ws_X11_digest hX (by decide) 11 rfl n278 (As := []) rfl rfl (Nat.le_of_ble_eq_true rfl) (e_X11_digest n278 he279) dL_law_775 ?_
                                                  refine v_lcmp o dL_law_778 ?_
                                                  refine v_if_eq o 784 dL_law_779 (by decide) (fun c281 => ?_) (fun c281 => ?_)
                                                  · replace h := z_ip c281 h
                                                    refine v_iinc o (a3 + (6 : Int32)) [(3, .int (a3 + (6 : Int32))), (0, .ref a0), (1, .ref (z_w q a1)), (2, .ref (z_w q a2))] dL_law_784 3 rfl rfl (by decide) rfl ?_
                                                    refine v_goto o 28 dL_law_787 (by decide) ?_
                                                    obtain rfl := z_some h
                                                    refine v_sub [1, 2, 3, 0] rfl ?_
                                                    exact hk
                                                  · replace h := z_in c281 h
                                                    obtain rfl := z_some h
                                                    refine v_sub [] rfl ?_
                                                    exact hk
                                                · replace h := z_in c274 h
                                                  refine v_tabOut o 784 dL_law_43 ?_ (by decide) ?_
                                                  · by_cases hl : (((z_sx q (a3).toNatClampNeg) &&& (31 : Int32))).toInt < 0
                                                    · exact Or.inl hl
                                                    · by_cases hu : 22 < (((z_sx q (a3).toNatClampNeg) &&& (31 : Int32))).toInt
                                                      · exact Or.inr hu
                                                      · exfalso
                                                        have hh : (((z_sx q (a3).toNatClampNeg) &&& (31 : Int32))).toInt = 0 ∨ (((z_sx q (a3).toNatClampNeg) &&& (31 : Int32))).toInt = 1 ∨ (((z_sx q (a3).toNatClampNeg) &&& (31 : Int32))).toInt = 2 ∨ (((z_sx q (a3).toNatClampNeg) &&& (31 : Int32))).toInt = 3 ∨ (((z_sx q (a3).toNatClampNeg) &&& (31 : Int32))).toInt = 4 ∨ (((z_sx q (a3).toNatClampNeg) &&& (31 : Int32))).toInt = 5 ∨ (((z_sx q (a3).toNatClampNeg) &&& (31 : Int32))).toInt = 6 ∨ (((z_sx q (a3).toNatClampNeg) &&& (31 : Int32))).toInt = 7 ∨ (((z_sx q (a3).toNatClampNeg) &&& (31 : Int32))).toInt = 8 ∨ (((z_sx q (a3).toNatClampNeg) &&& (31 : Int32))).toInt = 9 ∨ (((z_sx q (a3).toNatClampNeg) &&& (31 : Int32))).toInt = 10 ∨ (((z_sx q (a3).toNatClampNeg) &&& (31 : Int32))).toInt = 11 ∨ (((z_sx q (a3).toNatClampNeg) &&& (31 : Int32))).toInt = 12 ∨ (((z_sx q (a3).toNatClampNeg) &&& (31 : Int32))).toInt = 13 ∨ (((z_sx q (a3).toNatClampNeg) &&& (31 : Int32))).toInt = 14 ∨ (((z_sx q (a3).toNatClampNeg) &&& (31 : Int32))).toInt = 15 ∨ (((z_sx q (a3).toNatClampNeg) &&& (31 : Int32))).toInt = 16 ∨ (((z_sx q (a3).toNatClampNeg) &&& (31 : Int32))).toInt = 17 ∨ (((z_sx q (a3).toNatClampNeg) &&& (31 : Int32))).toInt = 18 ∨ (((z_sx q (a3).toNatClampNeg) &&& (31 : Int32))).toInt = 19 ∨ (((z_sx q (a3).toNatClampNeg) &&& (31 : Int32))).toInt = 20 ∨ (((z_sx q (a3).toNatClampNeg) &&& (31 : Int32))).toInt = 21 ∨ (((z_sx q (a3).toNatClampNeg) &&& (31 : Int32))).toInt = 22 := by omega
                                                        rcases hh with hh | hh | hh | hh | hh | hh | hh | hh | hh | hh | hh | hh | hh | hh | hh | hh | hh | hh | hh | hh | hh | hh | hh
                                                        · exact c15 (z_i32 hh (by decide))
                                                        · exact c33 (z_i32 hh (by decide))
                                                        · exact c43 (z_i32 hh (by decide))
                                                        · exact c53 (z_i32 hh (by decide))
                                                        · exact c67 (z_i32 hh (by decide))
                                                        · exact c81 (z_i32 hh (by decide))
                                                        · exact c89 (z_i32 hh (by decide))
                                                        · exact c103 (z_i32 hh (by decide))
                                                        · exact c113 (z_i32 hh (by decide))
                                                        · exact c121 (z_i32 hh (by decide))
                                                        · exact c133 (z_i32 hh (by decide))
                                                        · exact c145 (z_i32 hh (by decide))
                                                        · exact c155 (z_i32 hh (by decide))
                                                        · exact c163 (z_i32 hh (by decide))
                                                        · exact c171 (z_i32 hh (by decide))
                                                        · exact c181 (z_i32 hh (by decide))
                                                        · exact c189 (z_i32 hh (by decide))
                                                        · exact c201 (z_i32 hh (by decide))
                                                        · exact c209 (z_i32 hh (by decide))
                                                        · exact c238 (z_i32 hh (by decide))
                                                        · exact c248 (z_i32 hh (by decide))
                                                        · exact c262 (z_i32 hh (by decide))
                                                        · exact c274 (z_i32 hh (by decide))
                                                  · refine v_iinc o (a3 + (6 : Int32)) [(3, .int (a3 + (6 : Int32))), (0, .ref a0), (1, .ref (z_w q a1)), (2, .ref (z_w q a2))] dL_law_784 3 rfl rfl (by decide) rfl ?_
                                                    refine v_goto o 28 dL_law_787 (by decide) ?_
                                                    obtain rfl := z_some h
                                                    refine v_sub [1, 2, 3, 0] rfl ?_
                                                    exact hk
def f_L_law (q : z_Q) (G : z_G) (D : z_D) (a0 : Nat) : Option (z_G × z_D) :=
  z_let (z_nG G 110 0) (fun G1 => ((f_L_cell q G1 (z_nD D (z_Z G)) a0 (0 : Int32)).bind (fun r3 => (z_gK G1 110 (z_Z G) ((f_X10_init G1 (z_nD D (z_Z G)) (z_Z G) r3).bind (fun p6 => (z_let (z_nG p6.1 111 0) (fun G7 => ((f_L_cell q G7 (z_nD p6.2 (z_Z p6.1)) a0 (0 : Int32)).bind (fun r9 => (z_gK G7 111 (z_Z p6.1) ((f_X11_init G7 (z_nD p6.2 (z_Z p6.1)) (z_Z p6.1) r9).bind (fun p12 => (((z_loop (fun v => c_L_law_28 q p12.1 v.1 a0 (z_Z G) (z_Z p6.1) v.2) 4000 (p12.2, (1 : Int32))).bind (Sum.elim (fun e282 => (none)) (Sum.elim (fun e282 => (none)) (Sum.elim (fun e282 => (none)) (Sum.elim (fun e282 => (none)) (Sum.elim (fun e282 => (none)) (Sum.elim (fun e282 => (none)) (Sum.elim (fun e282 => (none)) (Sum.elim (fun e282 => (none)) (Sum.elim (fun e282 => (none)) (Sum.elim (fun e282 => (none)) (Sum.elim (fun e282 => (none)) (Sum.elim (fun e282 => (none)) (Sum.elim (fun e282 => (none)) (Sum.elim (fun e282 => (none)) (Sum.elim (fun e282 => (none)) (Sum.elim (fun e282 => (none)) (Sum.elim (fun e282 => (none)) (Sum.elim (fun e282 => (none)) (Sum.elim (fun e282 => (none)) (Sum.elim (fun e282 => (none)) (Sum.elim (fun e282 => (none)) (Sum.elim (fun e282 => (none)) (Sum.elim (fun e282 => (none)) (fun e282 => (some (p12.1, e282)))))))))))))))))))))))))))))))))))))))))
set_option maxRecDepth 100000 in
set_option maxHeartbeats 4000000 in
theorem b_L_law {q : z_Q} {X : z_X} {G : z_G} {D : z_D} {a0 : Nat} {G1 : z_G} {D1 : z_D} (hb0 : z_b q = (x_s X).heap.size) (ha0 : x_a X = #[Value.ref (z_sb q)]) {nm : String} (o : z_O q X cL_law 4 "FlashTrustLaw" nm (some .boolean)) (hX : x_R X = room_1) (hP : a0 = z_sb q) (h : f_L_law q G D a0 = some (G1, D1)) : z_V q X 4 (lw_Z (x_b X) (x_a X) (x_s X)) 0 0 G D 0 [(0, .ref a0)] [] := by
  unfold f_L_law at h
  refine nw_10 o ln_1_15 hX (by decide) dL_law_0 ?_
  replace h := z_let_of h
  generalize (z_nG G 110 0) = G1 at h ⊢
  refine v_dup o dL_law_3 rfl ?_
  refine v_aload_n o dL_law_4 rfl 0 rfl ?_
  refine v_iconst o (0 : Int32) dL_law_5 (by decide) ?_
  obtain ⟨r3, he2, h⟩ := z_bind h
  refine v_callS o yw_L_cell ln_5_36 ws_L_cell hX (by decide) (As := [.ref a0, .int (0 : Int32)]) rfl rfl (Nat.le_of_ble_eq_true rfl) (e_L_cell hP he2) dL_law_6 ?_
  obtain ⟨n4, h⟩ := z_gK_of h
  obtain ⟨p6, he5, h⟩ := z_bind h
  refine v_callI o yw_X10_init rfl ln_1_17 wi_X10_init hX (by decide) (As := [.int r3]) rfl rfl (Nat.le_of_ble_eq_true rfl) (e_X10_init n4 he5) dL_law_9 ?_
  refine v_astore_n o [(1, .ref (z_w q (z_Z G))), (0, .ref a0)] dL_law_12 rfl (by decide) rfl ?_
  refine nw_11 o ln_5_39 hX (by decide) dL_law_13 ?_
  replace h := z_let_of h
  generalize (z_nG p6.1 111 0) = G7 at h ⊢
  refine v_dup o dL_law_16 rfl ?_
  refine v_aload_n o dL_law_17 rfl 1 rfl ?_
  refine v_iconst o (0 : Int32) dL_law_18 (by decide) ?_
  obtain ⟨r9, he8, h⟩ := z_bind h
  refine v_callS o yw_L_cell ln_5_36 ws_L_cell hX (by decide) (As := [.ref a0, .int (0 : Int32)]) rfl rfl (Nat.le_of_ble_eq_true rfl) (e_L_cell hP he8) dL_law_19 ?_
  obtain ⟨n10, h⟩ := z_gK_of h
  obtain ⟨p12, he11, h⟩ := z_bind h
  refine v_callI o yw_X11_init rfl ln_5_41 wi_X11_init hX (by decide) (As := [.int r9]) rfl rfl (Nat.le_of_ble_eq_true rfl) (e_X11_init n10 he11) dL_law_22 ?_
  refine v_astore_n o [(2, .ref (z_w q (z_Z p6.1))), (1, .ref (z_w q (z_Z G))), (0, .ref a0)] dL_law_25 rfl (by decide) rfl ?_
  refine v_iconst o (1 : Int32) dL_law_26 (by decide) ?_
  refine v_istore_n o [(3, .int (1 : Int32)), (2, .ref (z_w q (z_Z p6.1))), (1, .ref (z_w q (z_Z G))), (0, .ref a0)] dL_law_27 rfl (by decide) rfl ?_
  refine v_sub [3, 2, 1, 0] rfl ?_
  obtain ⟨e282, he283, h⟩ := z_bind h
  refine z_loopV (P := p_L_law_28 q X _ p12.1 a0 (z_Z G) (z_Z p6.1)) (E := x_L_law_28 q X _ p12.1 a0 (z_Z G) (z_Z p6.1)) (fun v ρ hb hk => tc_L_law_28 (D := v.1) (a0 := a0) (a1 := (z_Z G)) (a2 := (z_Z p6.1)) (a3 := v.2) o hX hP hb hk) 4000 _ e282 he283 ?_
  rcases e282 with e282 | e282
  · replace h := z_el h
    show z_V q X 4 _ _ _ p12.1 e282 209 [] []
    refine v_iconst o (0 : Int32) dL_law_209 (by decide) ?_
    cases h
  · replace h := z_er h
    rcases e282 with e282 | e282
    · replace h := z_el h
      show z_V q X 4 _ _ _ p12.1 e282 232 [] []
      refine v_iconst o (0 : Int32) dL_law_232 (by decide) ?_
      cases h
    · replace h := z_er h
      rcases e282 with e282 | e282
      · replace h := z_el h
        show z_V q X 4 _ _ _ p12.1 e282 255 [] []
        refine v_iconst o (0 : Int32) dL_law_255 (by decide) ?_
        cases h
      · replace h := z_er h
        rcases e282 with e282 | e282
        · replace h := z_el h
          show z_V q X 4 _ _ _ p12.1 e282 298 [] []
          refine v_iconst o (0 : Int32) dL_law_298 (by decide) ?_
          cases h
        · replace h := z_er h
          rcases e282 with e282 | e282
          · replace h := z_el h
            show z_V q X 4 _ _ _ p12.1 e282 341 [] []
            refine v_iconst o (0 : Int32) dL_law_341 (by decide) ?_
            cases h
          · replace h := z_er h
            rcases e282 with e282 | e282
            · replace h := z_el h
              show z_V q X 4 _ _ _ p12.1 e282 354 [] []
              refine v_iconst o (0 : Int32) dL_law_354 (by decide) ?_
              cases h
            · replace h := z_er h
              rcases e282 with e282 | e282
              · replace h := z_el h
                show z_V q X 4 _ _ _ p12.1 e282 397 [] []
                refine v_iconst o (0 : Int32) dL_law_397 (by decide) ?_
                cases h
              · replace h := z_er h
                rcases e282 with e282 | e282
                · replace h := z_el h
                  show z_V q X 4 _ _ _ p12.1 e282 420 [] []
                  refine v_iconst o (0 : Int32) dL_law_420 (by decide) ?_
                  cases h
                · replace h := z_er h
                  rcases e282 with e282 | e282
                  · replace h := z_el h
                    show z_V q X 4 _ _ _ p12.1 e282 433 [] []
                    refine v_iconst o (0 : Int32) dL_law_433 (by decide) ?_
                    cases h
                  · replace h := z_er h
                    rcases e282 with e282 | e282
                    · replace h := z_el h
                      show z_V q X 4 _ _ _ p12.1 e282 466 [] []
                      refine v_iconst o (0 : Int32) dL_law_466 (by decide) ?_
                      cases h
                    · replace h := z_er h
                      rcases e282 with e282 | e282
                      · replace h := z_el h
                        show z_V q X 4 _ _ _ p12.1 e282 499 [] []
                        refine v_iconst o (0 : Int32) dL_law_499 (by decide) ?_
                        cases h
                      · replace h := z_er h
                        rcases e282 with e282 | e282
                        · replace h := z_el h
                          show z_V q X 4 _ _ _ p12.1 e282 522 [] []
                          refine v_iconst o (0 : Int32) dL_law_522 (by decide) ?_
                          cases h
                        · replace h := z_er h
                          rcases e282 with e282 | e282
                          · replace h := z_el h
                            show z_V q X 4 _ _ _ p12.1 e282 535 [] []
                            refine v_iconst o (0 : Int32) dL_law_535 (by decide) ?_
                            cases h
                          · replace h := z_er h
                            rcases e282 with e282 | e282
                            · replace h := z_el h
                              show z_V q X 4 _ _ _ p12.1 e282 548 [] []
                              refine v_iconst o (0 : Int32) dL_law_548 (by decide) ?_
                              cases h
                            · replace h := z_er h
                              rcases e282 with e282 | e282
                              · replace h := z_el h
                                show z_V q X 4 _ _ _ p12.1 e282 571 [] []
                                refine v_iconst o (0 : Int32) dL_law_571 (by decide) ?_
                                cases h
                              · replace h := z_er h
                                rcases e282 with e282 | e282
                                · replace h := z_el h
                                  show z_V q X 4 _ _ _ p12.1 e282 584 [] []
                                  refine v_iconst o (0 : Int32) dL_law_584 (by decide) ?_
                                  cases h
                                · replace h := z_er h
                                  rcases e282 with e282 | e282
                                  · replace h := z_el h
                                    show z_V q X 4 _ _ _ p12.1 e282 617 [] []
                                    refine v_iconst o (0 : Int32) dL_law_617 (by decide) ?_
                                    cases h
                                  · replace h := z_er h
                                    rcases e282 with e282 | e282
                                    · replace h := z_el h
                                      show z_V q X 4 _ _ _ p12.1 e282 630 [] []
                                      refine v_iconst o (0 : Int32) dL_law_630 (by decide) ?_
                                      cases h
                                    · replace h := z_er h
                                      rcases e282 with e282 | e282
                                      · replace h := z_el h
                                        show z_V q X 4 _ _ _ p12.1 e282 669 [] []
                                        refine v_iconst o (0 : Int32) dL_law_669 (by decide) ?_
                                        cases h
                                      · replace h := z_er h
                                        rcases e282 with e282 | e282
                                        · replace h := z_el h
                                          show z_V q X 4 _ _ _ p12.1 e282 692 [] []
                                          refine v_iconst o (0 : Int32) dL_law_692 (by decide) ?_
                                          cases h
                                        · replace h := z_er h
                                          rcases e282 with e282 | e282
                                          · replace h := z_el h
                                            show z_V q X 4 _ _ _ p12.1 e282 735 [] []
                                            refine v_iconst o (0 : Int32) dL_law_735 (by decide) ?_
                                            cases h
                                          · replace h := z_er h
                                            rcases e282 with e282 | e282
                                            · replace h := z_el h
                                              show z_V q X 4 _ _ _ p12.1 e282 768 [] []
                                              refine v_iconst o (0 : Int32) dL_law_768 (by decide) ?_
                                              cases h
                                            · replace h := z_er h
                                              rcases e282 with e282 | e282
                                              · replace h := z_el h
                                                show z_V q X 4 _ _ _ p12.1 e282 782 [] []
                                                refine v_iconst o (0 : Int32) dL_law_782 (by decide) ?_
                                                cases h
                                              · replace h := z_er h
                                                show z_V q X 4 _ _ _ p12.1 e282 790 [] []
                                                refine v_iconst o (1 : Int32) dL_law_790 (by decide) ?_
                                                exact z_lawEnd o hX hP hb0 ha0 (by decide) (by decide) dL_law_791
