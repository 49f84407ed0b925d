section ZA
variable {q : z_Q} {X : z_X} {cc : ByteArray} {nL : Nat} {own nm : String} {ret : Option FieldType} {Q : State → Prop} {k n : Nat} {G : z_G} {D : z_D} {pc : Nat} {lv : List (Nat × Value)} {st : List Value}
theorem z_lc {locs : List Loc} {a : Nat} (hl : ∀ l ∈ locs, z_b q ≤ l.base) (hba : z_b q ≤ a) (sl : Nat) : ∀ l ∈ locs ++ [⟨a, sl⟩], z_b q ≤ l.base := fun l hlm => by
  rcases List.mem_append.mp hlm with h9 | h9
  · exact hl l h9
  · rw [List.mem_singleton.mp h9]
    exact hba
theorem v_iald (o : z_O q X cc nL own nm ret) {a : Nat} {i : Int32} (hK : z_K G a = 1) (hi : vp_in i (z_N G a)) (d : decode cc pc = .ok (.iaload, 1)) (h : z_V q X nL Q k n G D (pc + 1) lv (.int (z_U D a i.toNatClampNeg) :: st)) : z_V q X nL Q k n G D pc lv (.int i :: .ref (z_w q a) :: st) := by
  intro H locs ls hR hl hv
  obtain ⟨p0, hp⟩ := hR.get (show z_K G a ≠ 0 by omega)
  rw [z_c_1 hK] at hp
  exact va_iald o.ex o.cd o.kn hR.1 p0 0 hp rfl hi d (h H locs ls hR hl hv)
theorem v_lald (o : z_O q X cc nL own nm ret) {a : Nat} {i : Int32} (hK : z_K G a = 2) (hi : vp_in i (z_N G a)) (d : decode cc pc = .ok (.laload, 1)) (h : z_V q X nL Q k n G D (pc + 1) lv (.long (z_Y D a i.toNatClampNeg) :: st)) : z_V q X nL Q k n G D pc lv (.int i :: .ref (z_w q a) :: st) := by
  intro H locs ls hR hl hv
  obtain ⟨p0, hp⟩ := hR.get (show z_K G a ≠ 0 by omega)
  rw [z_c_2 hK] at hp
  exact va_lald o.ex o.cd o.kn hR.1 p0 1 hp rfl hi d (h H locs ls hR hl hv)
theorem v_aald (o : z_O q X cc nL own nm ret) {a : Nat} {i : Int32} (hK : z_K G a = 3) (hi : vp_in i (z_N G a)) (hz : z_A G a i.toNatClampNeg ≠ 0) (d : decode cc pc = .ok (.aaload, 1)) (h : z_V q X nL Q k n G D (pc + 1) lv (.ref (z_w q (z_A G a i.toNatClampNeg)) :: st)) : z_V q X nL Q k n G D pc lv (.int i :: .ref (z_w q a) :: st) := by
  intro H locs ls hR hl hv
  obtain ⟨p0, hp⟩ := hR.get (show z_K G a ≠ 0 by omega)
  rw [z_c_3 hK] at hp
  refine va_aldq o.ex o.cd o.kn hR.1 p0 2 hp rfl hi d ?_
  have e : z_o q (z_A G a i.toNatClampNeg) = some (z_w q (z_A G a i.toNatClampNeg)) := by unfold z_o; rw [if_neg hz]
  show z_W X H locs k n Q (F0 (x_m X) (pc + 1) ls (va_rf (z_o q (z_A G a i.toNatClampNeg)) :: st))
  rw [e]
  exact h H locs ls hR hl hv
theorem v_alen (o : z_O q X cc nL own nm ret) {a : Nat} (hK : z_K G a = 1) (d : decode cc pc = .ok (.arraylength, 1)) (h : z_V q X nL Q k n G D (pc + 1) lv (.int (Int32.ofNat (z_N G a)) :: st)) : z_V q X nL Q k n G D pc lv (.ref (z_w q a) :: st) := by
  intro H locs ls hR hl hv
  obtain ⟨p0, hp⟩ := hR.get (show z_K G a ≠ 0 by omega)
  rw [z_c_1 hK] at hp
  exact va_alen o.ex o.cd o.kn hR.1 p0 0 hp rfl rfl d (h H locs ls hR hl hv)
theorem z_cneU {a b j : Nat} {v : Int32} (hb : b ≠ a) : z_c q G (z_sU D a j v) b = z_c q G D b := by
  have hU : z_U (z_sU D a j v) b = z_U D b := by
    funext i
    rw [z_U_sU, if_neg (fun h9 => hb h9.1)]
  have hf : z_fv q G (z_sU D a j v) b = z_fv q G D b := rfl
  have hY : z_Y (z_sU D a j v) b = z_Y D b := rfl
  unfold z_c
  rw [hU, hf, hY]
theorem z_cneY {a b j : Nat} {v : Int64} (hb : b ≠ a) : z_c q G (z_sY D a j v) b = z_c q G D b := by
  have hU : z_Y (z_sY D a j v) b = z_Y D b := by
    funext i
    rw [z_Y_sY, if_neg (fun h9 => hb h9.1)]
  have hf : z_fv q G (z_sY D a j v) b = z_fv q G D b := rfl
  have hY : z_U (z_sY D a j v) b = z_U D b := rfl
  unfold z_c
  rw [hU, hf, hY]
theorem v_iast (o : z_O q X cc nL own nm ret) {a : Nat} {i x : Int32} (hK : z_K G a = 1) (hi : vp_in i (z_N G a)) (d : decode cc pc = .ok (.iastore, 1)) (h : z_V q X nL Q k n G (z_sU D a i.toNatClampNeg x) (pc + 1) lv st) : z_V q X nL Q k n G D pc lv (.int x :: .int i :: .ref (z_w q a) :: st) := by
  intro H locs ls hR hl hv
  have hK0 : z_K G a ≠ 0 := by omega
  obtain ⟨p0, hp⟩ := hR.get hK0
  have hp1 := hp
  rw [z_c_1 hK] at hp
  have hba : z_b q ≤ z_w q a := hR.in (hR.mem hK0)
  refine W.iast o.ex o.cd (hR.1 p0 _ hp) ((o.kn.2 0 _ rfl).1 _ (fun j => .int (z_U D a j))) (fun e => by cases e) (by show ¬ (i < 0 ∨ (arrV _ _ _).slots.size ≤ _); rw [arrV_size]; exact hi) rfl rfl d fun H1 e z oq => ?_
  have hP1 : va_P q.1 vwCl ((va_pl (z_aL q G) (z_ce q G D)).set p0 (z_w q a, .inl (q.2.1.1, z_N G a, .inl (z_U (z_sU D a i.toNatClampNeg x) a)))) H1 := by
    refine hR.1.set hR.D hp ?_ oq
    show H1[z_w q a]? = some (vp_cell _ _)
    rw [e]
    show some ((arrV _ _ _).setSlot _ _) = _
    rw [vp_cell_i, arrV_store]
    congr 2
    funext j
    unfold updV
    rw [z_U_sU]
    by_cases hj : j = i.toNatClampNeg
    · rw [if_pos hj, if_pos ⟨rfl, hj⟩]
    · rw [if_neg hj, if_neg (fun h9 => hj h9.2)]
  rw [z_pl_set hR.D (hR.memA hK0) hp1] at hP1
  exact h H1 _ ls (hR.upd hK0 rfl rfl rfl (z_c_1 hK) (fun b hb => z_cneU hb) hP1 z (fun b hb => oq b (fun e => absurd hb (by rw [e]; exact Nat.not_lt.mpr hba)))) (z_lc hl hba _) hv
theorem v_last (o : z_O q X cc nL own nm ret) {a : Nat} {i : Int32} {x : Int64} (hK : z_K G a = 2) (hi : vp_in i (z_N G a)) (d : decode cc pc = .ok (.lastore, 1)) (h : z_V q X nL Q k n G (z_sY D a i.toNatClampNeg x) (pc + 1) lv st) : z_V q X nL Q k n G D pc lv (.long x :: .int i :: .ref (z_w q a) :: st) := by
  intro H locs ls hR hl hv
  have hK0 : z_K G a ≠ 0 := by omega
  obtain ⟨p0, hp⟩ := hR.get hK0
  have hp1 := hp
  rw [z_c_2 hK] at hp
  have hba : z_b q ≤ z_w q a := hR.in (hR.mem hK0)
  refine W.last o.ex o.cd (hR.1 p0 _ hp) ((o.kn.2 1 _ rfl).1 _ (fun j => .long (z_Y D a j))) (fun e => by cases e) (by show ¬ (i < 0 ∨ (arrV _ _ _).slots.size ≤ _); rw [arrV_size]; exact hi) rfl rfl d fun H1 e z oq => ?_
  have hP1 : va_P q.1 vwCl ((va_pl (z_aL q G) (z_ce q G D)).set p0 (z_w q a, .inl (q.2.1.2.1, z_N G a, .inr (.inl (z_Y (z_sY D a i.toNatClampNeg x) a))))) H1 := by
    refine hR.1.set hR.D hp ?_ oq
    show H1[z_w q a]? = some (vp_cell _ _)
    rw [e]
    show some ((arrV _ _ _).setSlot _ _) = _
    rw [vp_cell_l, arrV_store]
    congr 2
    funext j
    unfold updV
    rw [z_Y_sY]
    by_cases hj : j = i.toNatClampNeg
    · rw [if_pos hj, if_pos ⟨rfl, hj⟩]
    · rw [if_neg hj, if_neg (fun h9 => hj h9.2)]
  rw [z_pl_set hR.D (hR.memA hK0) hp1] at hP1
  exact h H1 _ ls (hR.upd hK0 rfl rfl rfl (z_c_2 hK) (fun b hb => z_cneY hb) hP1 z (fun b hb => oq b (fun e => absurd hb (by rw [e]; exact Nat.not_lt.mpr hba)))) (z_lc hl hba _) hv
end ZA
/-! contracts -/
def z_rm (dp mc ms : Nat) : Room := { frames := dp, cells := mc, slots := ms, locals := 40 * dp }
def z_Pre (q : z_Q) (G : z_G) (D : z_D) (U : State) : Prop := z_Rel q G D U.heap ∧ va_K q.1 vwCl (z_ty q) U ∧ z_St q U
def z_Qc (q : z_Q) (r : Option Value) (G : z_G) (D : z_D) : Array Value → State → Outcome → State → Prop := fun _ _ oc t => oc = .returned r ∧ z_Rel q G D t.heap
/-- the method y, called with av in the store (G, D), comes back with r, in the store (G1, D1) -/
def z_E (q : z_Q) (l : Launch) (y : MethodName) (bytes : ByteArray) (maxL : Nat) (ret : Option FieldType) (dp mc ms : Nat) (av : List Value) (G : z_G) (D : z_D) (r : Option Value) (G1 : z_G) (D1 : z_D) : Prop :=
  Met l y (Cond.code y bytes maxL ret :: z_tb) (z_rm dp mc ms) (va_Pc av (z_Pre q G D)) (z_Qc q r G1 D1) mc ms (fun a => z_b q ≤ a)
/-- the end of a method: the state as the contract says it -/
def z_F (q : z_Q) (X : z_X) (r : Option Value) (G : z_G) (D : z_D) (mc ms : Nat) : State → Prop := MQ (x_b X) (z_Qc q r G D) (x_a X) (x_s X) mc ms (fun a => z_b q ≤ a)
theorem z_E.of {q : z_Q} {l : Launch} {y : MethodName} {bytes : ByteArray} {maxL : Nat} {ret : Option FieldType} {dp mc ms : Nat} {av : List Value} {G : z_G} {D : z_D} {r : Option Value} {G1 : z_G} {D1 : z_D} (hy : plainName y.cls = true) (hn : (lg_sl av).length ≤ maxL)
    (h : ∀ X : z_X, x_R X = z_rm dp mc ms → x_l X = l → z_O q X bytes maxL y.cls y.name ret → z_V q X maxL (z_F q X r G1 D1 mc ms) 0 0 G D 0 (lv_args 0 av) []) : z_E q l y bytes maxL ret dp mc ms av G D r G1 D1 := by
  refine Met.ofW (cc := bytes) (maxL := maxL) (ret := ret) hy rfl ?_
  intro p e s m args below meth c s₁ B hml hv
  obtain ⟨rfl, hR, hK, hSt⟩ := hv
  have hts := atoms_spec (ws := Cond.code y bytes maxL ret :: z_tb) B.pre
  rw [lg_entry_eq]
  exact h (p, l, e, z_rm dp mc ms, s, m, av.toArray, below, meth, c) rfl rfl ⟨B.exec, B.bytes, B.returns, hml, findClass_of_methodNamed B.named, fun w hw => hts w (List.mem_cons_of_mem _ hw), B.notSynchronized, hK, hSt, (name_of_methodNamed B.named B.method).1, hR.2.2.1.2, hR.2.2.2.1⟩ s.heap [] _ hR (fun l hl => by cases hl) (lv_entry av hn)
section ZE
variable {q : z_Q} {X : z_X} {cc : ByteArray} {nL : Nat} {own nm : String} {ret : Option FieldType} {Q : State → Prop} {k n : Nat} {G : z_G} {D : z_D} {pc : Nat} {lv : List (Nat × Value)} {st : List Value}
theorem v_ireturn (o : z_O q X cc nL own nm (some .int)) {v : Int32} (d : decode cc pc = .ok (.ireturn, 1)) : z_V q X nL (z_F q X (some (.int v)) G D k n) k n G D pc lv [.int v] :=
  fun H locs ls hR hl hv => W.iret o.ex o.cd o.rt (fun t ht _ => ⟨rfl, by rw [ht]; exact hR⟩) hl d o.lk
theorem v_zreturn (o : z_O q X cc nL own nm (some .boolean)) {v : Int32} (hz : narrow .boolean (.int v) = .int v) (d : decode cc pc = .ok (.ireturn, 1)) : z_V q X nL (z_F q X (some (.int v)) G D k n) k n G D pc lv [.int v] :=
  fun H locs ls hR hl hv => W.zret o.ex o.cd o.rt hz (fun t ht _ => ⟨rfl, by rw [ht]; exact hR⟩) hl d o.lk
theorem v_lreturn (o : z_O q X cc nL own nm (some .long)) {v : Int64} (d : decode cc pc = .ok (.lreturn, 1)) : z_V q X nL (z_F q X (some (.long v)) G D k n) k n G D pc lv [.long v] :=
  fun H locs ls hR hl hv => W.lret o.ex o.cd o.rt (fun t ht _ => ⟨rfl, by rw [ht]; exact hR⟩) hl d o.lk
theorem v_areturn {C : String} (o : z_O q X cc nL own nm (some (.object C))) {v : Nat} (d : decode cc pc = .ok (.areturn, 1)) : z_V q X nL (z_F q X (some (.ref (z_w q v))) G D k n) k n G D pc lv [.ref (z_w q v)] :=
  fun H locs ls hR hl hv => W.aret o.ex o.cd o.rt (Or.inl ⟨_, rfl⟩) (Or.inr ⟨_, rfl⟩) (fun t ht _ => ⟨rfl, by rw [ht]; exact hR⟩) hl d o.lk
theorem v_return (o : z_O q X cc nL own nm none) (d : decode cc pc = .ok (.return_, 1)) : z_V q X nL (z_F q X none G D k n) k n G D pc lv [] :=
  fun H locs ls hR hl hv => W.vret o.ex o.cd o.rt (fun t ht _ => ⟨rfl, by rw [ht]; exact hR⟩) hl d o.lk
theorem z_Pre.blind {q : z_Q} {G : z_G} {D : z_D} {av : List Value} : FrameBlind (va_Pc av (z_Pre q G D)) := fun a U g mk h => ⟨h.1, h.2.1, va_K.moved (u := U) (U := U.calling g mk a) (Vm.Alike.refl U.vm) h.2.2.1, z_St.same (s := U) (U := U.calling g mk a) rfl h.2.2.2⟩
theorem z_back {H : Heap} {locs : List Loc} {mc ms : Nat} {ls : Array Slot} {st0 : List Value} {r : Option Value} {G1 : z_G} {D1 : z_D} {a : Array Value} (hr : va_Run (x_p X) (x_l X) (x_e X) (x_R X) (x_s X) (x_m X) (x_a X) (x_b X) (x_h X) (x_c X) H locs k n mc ms (F0 (x_m X) pc ls st0) st (z_Qc q r G1 D1 a) (fun a => z_b q ≤ a)) (hl : ∀ l ∈ locs, z_b q ≤ l.base) (hv : lv_has ls nL lv) (h : z_V q X nL Q (k + mc) (n + ms) G1 D1 (pc + 3) lv (r.toList ++ st)) : z_W X H locs k n Q (F0 (x_m X) pc ls st0) := by
  intro T hT Y
  obtain ⟨v, st₀, t, T', L, h0, Y', hL, e1, e2, ⟨hv1, hR1⟩, go⟩ := hr T hT Y
  cases hv1
  obtain ⟨t2, a1, b1⟩ := h T'.heap (locs ++ L) ls (by rw [e1]; exact hR1) (fun l hm => by
    rcases List.mem_append.mp hm with h9 | h9
    · exact hl l h9
    · exact hL l h9) hv T' rfl Y'
  exact ⟨t2, go t2 a1, b1⟩
/-- what the tables say of a method: its code, its class, its parameters -/
def z_yw (y : MethodName) (bytes : ByteArray) (maxL : Nat) (ret : Option FieldType) (m : Nat) : Prop := Cond.code y bytes maxL ret ∈ lw_tbl ∧ Cond.initialized y.cls ∈ lw_tbl ∧ (y.cls ≠ "java/lang/invoke/MethodHandle" ∧ y.cls ≠ "java/lang/invoke/VarHandle" ∧ (parseMethodDescriptor y.desc).map (fun d => d.parameters.length) = some m)
theorem z_GI {y : MethodName} {bytes : ByteArray} {maxL : Nat} {ret : Option FieldType} (h : Cond.code y bytes maxL ret ∈ lw_tbl) : GoodIn z_tb (Cond.code y bytes maxL ret :: z_tb) := fun w hw => by
  rcases List.mem_cons.mp hw with rfl | hw
  · exact ⟨z_tb_in h rfl, good_of_word rfl⟩
  · exact ⟨hw, z_tb_good hw⟩
variable {y : MethodName} {bytes : ByteArray} {maxL : Nat} {ret' : Option FieldType} {dp mc ms nA i b : Nat} {As : List Value} {st0 : List Value} {r : Option Value} {G1 : z_G} {D1 : z_D} {R0 : Room}
theorem z_cB (o : z_O q X cc nL own nm ret) (yw : z_yw y bytes maxL ret' nA) (hw : Cond.methodLink own i y ∈ lw_tbl) (hX : x_R X = R0) (hr : dp + 1 ≤ R0.frames ∧ 8 + (maxL + 11) + 40 * dp ≤ R0.locals ∧ k + mc ≤ R0.cells ∧ n + ms ≤ R0.slots) : CallB (x_R X) (x_s X) (x_a X) own i y bytes maxL ret' (Cond.code y bytes maxL ret' :: z_tb) (z_rm dp mc ms) mc ms nA :=
  callB_of nA o.ts (z_GI yw.1) rfl rfl rfl (o.tw yw.2.1 rfl) (o.tw hw rfl) yw.2.2 (by rw [hX]; exact ⟨hr.1, hr.2.1⟩)
theorem z_cf (hX : x_R X = R0) (hr : dp + 1 ≤ R0.frames ∧ 8 + (maxL + 11) + 40 * dp ≤ R0.locals ∧ k + mc ≤ R0.cells ∧ n + ms ≤ R0.slots) : k + mc ≤ (x_R X).cells ∧ n + ms ≤ (x_R X).slots := by rw [hX]; exact hr.2.2
/-- invokevirtual -/
theorem v_callV (o : z_O q X cc nL own nm ret) (yw : z_yw y bytes maxL ret' nA) (hw : Cond.methodLink own i y ∈ lw_tbl) (hwi : Cond.instanceMethod y ∈ lw_tbl) (hws : Cond.selects y.cls y y ∈ lw_tbl) (hX : x_R X = R0) (hr : dp + 1 ≤ R0.frames ∧ 8 + (maxL + 11) + 40 * dp ≤ R0.locals ∧ k + mc ≤ R0.cells ∧ n + ms ≤ R0.slots)
    (ci : Nat) {T : u_T} {N : Nat} (hc : vwCl[ci]? = some (y.cls, T, N)) (hK : z_K G b = 100 + ci) (hn : As.length = nA) (hst : st0 = As.reverse ++ .ref (z_w q b) :: st) (hW : (st.map fun v => v.category).sum ≤ 8) (E : z_E q (x_l X) y bytes maxL ret' dp mc ms (.ref (z_w q b) :: As) G D r G1 D1) (d : decode cc pc = .ok (.invokevirtual i, 3))
    (h : z_V q X nL Q (k + mc) (n + ms) G1 D1 (pc + 3) lv (r.toList ++ st)) : z_V q X nL Q k n G D pc lv st0 := by
  intro H locs ls hR hl hv
  obtain ⟨p0, hp⟩ := hR.get (show z_K G b ≠ 0 by omega)
  rw [z_c_ob hK] at hp
  exact z_back (va_runV (As := As) (rest := st) (n := nA) ⟨o.ex, o.cd, o.ml, o.ow, o.ts⟩ E ⟨z_cB o yw hw hX hr, o.tw hwi rfl, o.tw hws rfl⟩ ⟨z_Pre.blind, va_recv o.kn hR.1 hc hp, fun U hU hW => ⟨rfl, by rw [hU]; exact hR, o.kn.moved hW.alike, o.st.warm hW⟩⟩ rfl hn hv.1 hst (lv_room hW) d (z_cf hX hr)) hl hv h
/-- invokestatic -/
theorem v_callS (o : z_O q X cc nL own nm ret) (yw : z_yw y bytes maxL ret' nA) (hw : Cond.methodLink own i y ∈ lw_tbl) (hws : Cond.static y ∈ lw_tbl) (hX : x_R X = R0) (hr : dp + 1 ≤ R0.frames ∧ 8 + (maxL + 11) + 40 * dp ≤ R0.locals ∧ k + mc ≤ R0.cells ∧ n + ms ≤ R0.slots)
    (hn : As.length = nA) (hst : st0 = As.reverse ++ st) (hW : (st.map fun v => v.category).sum ≤ 8) (E : z_E q (x_l X) y bytes maxL ret' dp mc ms As G D r G1 D1) (d : decode cc pc = .ok (.invokestatic i, 3))
    (h : z_V q X nL Q (k + mc) (n + ms) G1 D1 (pc + 3) lv (r.toList ++ st)) : z_V q X nL Q k n G D pc lv st0 := by
  intro H locs ls hR hl hv
  exact z_back (va_runS (As := As) (rest := st) (n := nA) ⟨o.ex, o.cd, o.ml, o.ow, o.ts⟩ E ⟨z_cB o yw hw hX hr, o.tw hws rfl⟩ ⟨z_Pre.blind, fun U hU hW => ⟨rfl, by rw [hU]; exact hR, o.kn.moved hW.alike, o.st.warm hW⟩⟩ rfl hn hv.1 hst (lv_room hW) d (z_cf hX hr)) hl hv h
/-- invokespecial of a constructor -/
theorem v_callI (o : z_O q X cc nL own nm ret) (yw : z_yw y bytes maxL none nA) (hy : y.name = "<init>") (hw : Cond.methodLink own i y ∈ lw_tbl) (hwi : Cond.instanceMethod y ∈ lw_tbl) (hX : x_R X = R0) (hr : dp + 1 ≤ R0.frames ∧ 8 + (maxL + 11) + 40 * dp ≤ R0.locals ∧ k + mc ≤ R0.cells ∧ n + ms ≤ R0.slots)
    (hn : As.length = nA) (hst : st0 = As.reverse ++ .ref (z_w q b) :: st) (hW : (st.map fun v => v.category).sum ≤ 8) (E : z_E q (x_l X) y bytes maxL none dp mc ms (.ref (z_w q b) :: As) G D none G1 D1) (d : decode cc pc = .ok (.invokespecial i, 3))
    (h : z_V q X nL Q (k + mc) (n + ms) G1 D1 (pc + 3) lv st) : z_V q X nL Q k n G D pc lv st0 := by
  intro H locs ls hR hl hv
  exact z_back (va_runI (As := As) (rest := st) (n := nA) ⟨o.ex, o.cd, o.ml, o.ow, o.ts⟩ E ⟨z_cB o yw hw hX hr, hy, o.tw hwi rfl⟩ ⟨z_Pre.blind, fun U hU hW => ⟨rfl, by rw [hU]; exact hR, o.kn.moved hW.alike, o.st.warm hW⟩⟩ rfl hn hv.1 hst (lv_room hW) d (z_cf hX hr)) hl hv h
end ZE
