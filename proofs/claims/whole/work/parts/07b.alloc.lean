/-! new cells -/
def z_nG (G : z_G) (kd len : Nat) : z_G := (z_L G ++ [z_Z G], (fun a => if a = z_Z G then kd else z_K G a), (fun a => if a = z_Z G then len else z_N G a), (fun k a => if a = z_Z G then 0 else z_R G k a), (fun a j => if a = z_Z G then 0 else z_A G a j), z_Z G + 1)
def z_nD (D : z_D) (a : Nat) : z_D := ((fun k b => if b = a then 0 else z_I D k b), (fun k b => if b = a then 0 else z_J D k b), (fun b j => if b = a then 0 else z_U D b j), (fun b j => if b = a then 0 else z_Y D b j))
/-- the row at a is f -/
def z_fD (D : z_D) (a : Nat) (f : Nat → Int32) : z_D := (D.1, D.2.1, (fun b j => if b = a then f j else z_U D b j), D.2.2.2)
def z_dv (p : Nat × Nat) : Value := match p.1 with
  | 0 => .int 0
  | 1 => .long 0
  | _ => .null
theorem z_fv_new {q : z_Q} {G : z_G} {D : z_D} {kd len : Nat} : z_fv q (z_nG G kd len) (z_nD D (z_Z G)) (z_Z G) = z_dv := by
  funext p
  have h1 : ∀ k, z_I (z_nD D (z_Z G)) k (z_Z G) = 0 := fun k => if_pos rfl
  have h2 : ∀ k, z_J (z_nD D (z_Z G)) k (z_Z G) = 0 := fun k => if_pos rfl
  have h3 : ∀ k, z_R (z_nG G kd len) k (z_Z G) = 0 := fun k => if_pos rfl
  unfold z_fv z_dv
  rw [h1, h2, h3]
  rfl
theorem z_c_old {q : z_Q} {G : z_G} {D : z_D} {kd len b : Nat} (hb : b ≠ z_Z G) : z_c q (z_nG G kd len) (z_nD D (z_Z G)) b = z_c q G D b := by
  have h1 : z_K (z_nG G kd len) b = z_K G b := if_neg hb
  have h2 : z_N (z_nG G kd len) b = z_N G b := if_neg hb
  have h3 : ∀ k, z_R (z_nG G kd len) k b = z_R G k b := fun k => if_neg hb
  have h4 : ∀ j, z_A (z_nG G kd len) b j = z_A G b j := fun j => if_neg hb
  have h5 : ∀ k, z_I (z_nD D (z_Z G)) k b = z_I D k b := fun k => if_neg hb
  have h6 : ∀ k, z_J (z_nD D (z_Z G)) k b = z_J D k b := fun k => if_neg hb
  have h7 : z_U (z_nD D (z_Z G)) b = z_U D b := funext fun j => if_neg hb
  have h8 : z_Y (z_nD D (z_Z G)) b = z_Y D b := funext fun j => if_neg hb
  have hf : z_fv q (z_nG G kd len) (z_nD D (z_Z G)) b = z_fv q G D b := by
    funext p
    unfold z_fv
    rw [h3, h5, h6]
  unfold z_c
  rw [h1, h2, h7, h8, hf]
  simp only [h4]
theorem z_Rel.push {q : z_Q} {G : z_G} {D D1 : z_D} {H H1 : Heap} {kd len : Nat} (hR : z_Rel q G D H) (hz : H1.size = H.size + 1) (ho : ∀ x, x < H.size → H1[x]? = H[x]?) {e : va_E} (he : z_c q (z_nG G kd len) D1 (z_Z G) = e) (hD : ∀ b, b ≠ z_Z G → z_c q (z_nG G kd len) D1 b = z_c q G D b) (hn : va_at q.1 vwCl (z_w q (z_Z G), e) H1) : z_Rel q (z_nG G kd len) D1 H1 := by
  have hlt : ∀ a ∈ z_L G, a < z_Z G := fun a ha => by
    obtain ⟨k, hk⟩ := va_pl_get (X := []) (f := z_ce q G D) (show z_w q a ∈ z_aL q G from List.mem_map.mpr ⟨a, ha, rfl⟩)
    have h1 := (hR.1 k _ hk).lt
    rw [hR.2.2.2.2] at h1
    have h1 : z_w q a < z_w q (z_Z G) := h1
    unfold z_w at h1
    omega
  have hb := hR.2.2.1
  have hsz := hR.2.2.2.2
  refine ⟨?_, ⟨fun a ha => ?_, ?_, fun a ha => ?_⟩, ⟨hb.1, by omega⟩, fun a ha => (ho a (by omega)).trans (hR.2.2.2.1 a ha), ?_⟩
  · have hpl : va_pl (z_aL q (z_nG G kd len)) (z_ce q (z_nG G kd len) D1) = va_pl (z_aL q G) (z_ce q G D) ++ [(z_w q (z_Z G), e)] := by
      unfold z_aL
      show va_pl ((z_L G ++ [z_Z G]).map (z_w q)) _ = _
      unfold va_pl
      rw [List.map_append, List.map_append]
      congr 1
      · rw [List.map_map, List.map_map]
        apply List.map_congr_left
        intro b hbm
        show (z_w q b, z_ce q (z_nG G kd len) D1 (z_w q b)) = (z_w q b, z_ce q G D (z_w q b))
        rw [z_ce_w, z_ce_w, hD b (fun h9 => by have := hlt b hbm; omega)]
      · show [(z_w q (z_Z G), z_ce q (z_nG G kd len) D1 (z_w q (z_Z G)))] = _
        rw [z_ce_w, he]
    rw [hpl]
    refine (hR.1.kept (fun k x hx => ho x.1 ((hR.1 k x hx).lt))).app (fun k x hx => ?_)
    have hk : k < 1 := (List.getElem?_eq_some_iff.mp hx).1
    rw [show k = 0 by omega] at hx
    cases hx
    exact hn
  · rcases List.mem_append.mp ha with h | h
    · exact hR.2.1.1 a h
    · rw [List.mem_singleton.mp h]
      have hsz : H.size = z_b q - 1 + z_Z G := hsz
      omega
  · refine List.nodup_append.mpr ⟨hR.2.1.2.1, List.nodup_cons.mpr ⟨List.not_mem_nil, List.nodup_nil⟩, fun a ha b hb2 => ?_⟩
    rw [List.mem_singleton.mp hb2]
    have := hlt a ha
    omega
  · by_cases h : a = z_Z G
    · rw [h]; exact List.mem_append_right _ List.mem_cons_self
    · exact List.mem_append_left _ (hR.2.1.2.2 a (fun h9 => ha ((if_neg h).trans h9)))
  · rw [hz, hsz]
    rfl
section ZN
variable {q : z_Q} {X : z_X} {cc : ByteArray} {nL : Nat} {own nm : String} {ret : Option FieldType} {Q : State → Prop} {k n : Nat} {G : z_G} {D : z_D} {pc : Nat} {lv : List (Nat × Value)} {st : List Value} {R0 : Room}
theorem v_widen {k1 n1 : Nat} (hk : k ≤ k1) (hn : n ≤ n1) (h : z_V q X nL Q k1 n1 G D pc lv st) : z_V q X nL Q k n G D pc lv st := fun H locs ls hR hl hv => W.widen hk hn (h H locs ls hR hl hv)
theorem z_new (o : z_O q X cc nL own nm ret) (ci : Nat) {C : String} {T : u_T} {N : Nat} (hc : vwCl[ci]? = some (C, T, N)) (hin : ∀ w ∈ u_ws C T N, w ∈ lw_tbl) (ty : Nat → FieldType) (hty : ∀ k, k < N → parseFieldDescriptor (T k).2.2.1 = some (ty k)) (hfs : ∀ j, j < N → defaultValue (ty j) = vp_V ((z_T ci).map z_dv) j) {i : Nat} (hw : Cond.classLink own i C ∈ lw_tbl) (hwi : Cond.instantiable C N ∈ lw_tbl) (hwn : Cond.initialized C ∈ lw_tbl) (hX : x_R X = R0) (hr : k + 1 ≤ R0.cells ∧ n + N ≤ R0.slots) (d : decode cc pc = .ok (.new i, 3))
    (h : z_V q X nL Q (k + 1) (n + N) (z_nG G (100 + ci) 0) (z_nD D (z_Z G)) (pc + 3) lv (.ref (z_w q (z_Z G)) :: st)) : z_V q X nL Q k n G D pc lv st := by
  intro H locs ls hR hl hv
  have hin' : ∀ w ∈ u_ws C T N, w ∈ z_tb := fun w h => z_tb_in (hin w h) (by
    obtain ⟨b, -, rfl⟩ := List.mem_map.mp h
    unfold u_lay
    split <;> rfl)
  have hKn := o.kn.1 ci _ hc
  refine W.newcK o.ex o.cd o.ow (o.tw hw rfl) (o.tw hwi rfl) (o.tw hwn rfl) rfl d (by rw [hX]; exact hr.1) (by rw [hX]; exact hr.2) hKn.2.1 hR.2.2.2.2 fun H1 kC hkC e1 z1 o1 => ?_
  refine h H1 locs ls (hR.push (by rw [z1, hR.2.2.2.2]) (fun x hx => o1 x (by rw [← hR.2.2.2.2]; exact hx)) (z_c_ob (if_pos rfl)) (fun b hb => z_c_old hb) ?_) hl hv
  rw [z_fv_new]
  exact ⟨_, hc, (u_born ty o.ts hin' hKn hkC e1 hty).to hfs⟩
theorem v_newI (o : z_O q X cc nL own nm ret) {v : Int32} (B : Nat) (hw : Cond.arrayClass .int ∈ lw_tbl) (hv0 : 0 ≤ v) (hB : v.toNatClampNeg ≤ B) (hB4 : B ≤ 4000) (hX : x_R X = R0) (hr : k + 1 ≤ R0.cells ∧ n + B ≤ R0.slots) (d : decode cc pc = .ok (.newarray .int, 2))
    (h : z_V q X nL Q (k + 1) (n + B) (z_nG G 1 v.toNatClampNeg) (z_nD D (z_Z G)) (pc + 2) lv (.ref (z_w q (z_Z G)) :: st)) : z_V q X nL Q k n G D pc lv (.int v :: st) := by
  intro H locs ls hR hl hv
  have hn : ¬ v < 0 := fun e => by
    rw [Int32.le_iff_toInt_le] at hv0
    rw [Int32.lt_iff_toInt_lt] at e
    omega
  refine va_newaK (atype := .int) o.ex o.cd (o.tw hw rfl) rfl d rfl hn rfl (by show _ * 4 ≤ _; omega) (by rw [hX]; exact hr.1) (by rw [hX]; exact Nat.le_trans (Nat.add_le_add_left hB n) hr.2) hR.2.2.2.2 fun H1 cA e1 z1 o1 hAr hNm => ?_
  have hcA : cA = q.2.1.1 := Option.some.inj (hNm.symm.trans (o.kn.2 0 _ rfl).2)
  subst hcA
  refine W.widen (Nat.le_refl _) (Nat.add_le_add_left hB n) (h H1 locs ls (hR.push (by rw [z1, hR.2.2.2.2]) (fun x hx => o1 x (by rw [← hR.2.2.2.2]; exact hx)) (z_c_1 (if_pos rfl)) (fun b hb => z_c_old hb) ?_) hl hv)
  show H1[z_w q (z_Z G)]? = some (vp_cell _ _)
  rw [e1, vp_cell_i]
  have hN : z_N (z_nG G 1 v.toNatClampNeg) (z_Z G) = v.toNatClampNeg := if_pos rfl
  have hU : z_U (z_nD D (z_Z G)) (z_Z G) = fun _ => 0 := funext fun j => if_pos rfl
  rw [hN, hU]
  rfl
theorem v_newJ (o : z_O q X cc nL own nm ret) {v : Int32} (B : Nat) (hw : Cond.arrayClass .long ∈ lw_tbl) (hv0 : 0 ≤ v) (hB : v.toNatClampNeg ≤ B) (hB4 : B ≤ 4000) (hX : x_R X = R0) (hr : k + 1 ≤ R0.cells ∧ n + B ≤ R0.slots) (d : decode cc pc = .ok (.newarray .long, 2))
    (h : z_V q X nL Q (k + 1) (n + B) (z_nG G 2 v.toNatClampNeg) (z_nD D (z_Z G)) (pc + 2) lv (.ref (z_w q (z_Z G)) :: st)) : z_V q X nL Q k n G D pc lv (.int v :: st) := by
  intro H locs ls hR hl hv
  have hn : ¬ v < 0 := fun e => by
    rw [Int32.le_iff_toInt_le] at hv0
    rw [Int32.lt_iff_toInt_lt] at e
    omega
  refine va_newaK (atype := .long) o.ex o.cd (o.tw hw rfl) rfl d rfl hn rfl (by show _ * 8 ≤ _; omega) (by rw [hX]; exact hr.1) (by rw [hX]; exact Nat.le_trans (Nat.add_le_add_left hB n) hr.2) hR.2.2.2.2 fun H1 cA e1 z1 o1 hAr hNm => ?_
  have hcA : cA = q.2.1.2.1 := Option.some.inj (hNm.symm.trans (o.kn.2 1 _ rfl).2)
  subst hcA
  refine W.widen (Nat.le_refl _) (Nat.add_le_add_left hB n) (h H1 locs ls (hR.push (by rw [z1, hR.2.2.2.2]) (fun x hx => o1 x (by rw [← hR.2.2.2.2]; exact hx)) (z_c_2 (if_pos rfl)) (fun b hb => z_c_old hb) ?_) hl hv)
  show H1[z_w q (z_Z G)]? = some (vp_cell _ _)
  rw [e1, vp_cell_l]
  have hN : z_N (z_nG G 2 v.toNatClampNeg) (z_Z G) = v.toNatClampNeg := if_pos rfl
  have hU : z_Y (z_nD D (z_Z G)) (z_Z G) = fun _ => 0 := funext fun j => if_pos rfl
  rw [hN, hU]
  rfl
theorem v_newQ (o : z_O q X cc nL own nm ret) {v : Int32} {i : Nat} (B : Nat) (hw : Cond.classLink own i "FlashTrust$Shelf" ∈ lw_tbl) (hv0 : 0 ≤ v) (hB : v.toNatClampNeg ≤ B) (hB4 : B ≤ 4000) (hX : x_R X = R0) (hr : k + 1 ≤ R0.cells ∧ n + B ≤ R0.slots) (d : decode cc pc = .ok (.anewarray i, 3))
    (h : z_V q X nL Q (k + 1) (n + B) (z_nG G 3 v.toNatClampNeg) (z_nD D (z_Z G)) (pc + 3) lv (.ref (z_w q (z_Z G)) :: st)) : z_V q X nL Q k n G D pc lv (.int v :: st) := by
  intro H locs ls hR hl hv
  have hn : ¬ v < 0 := fun e => by
    rw [Int32.le_iff_toInt_le] at hv0
    rw [Int32.lt_iff_toInt_lt] at e
    omega
  refine W.anew o.ex o.cd o.ow (o.tw hw rfl) (va_AO.use o.st.2.1) rfl d rfl hn (by omega) (by rw [hX]; exact hr.1) (by rw [hX]; exact Nat.le_trans (Nat.add_le_add_left hB n) hr.2) fun cA kA comp f1 f2 f3 f4 => ?_
  obtain ⟨kA', comp', g1, g2, g3, g4⟩ := (o.kn.2 2 _ rfl).2
  have hcA : cA = q.2.1.2.2 := Option.some.inj (f1.symm.trans g4)
  subst hcA
  generalize hH1 : H.push ({ cls := q.2.1.2.2, slots := Array.replicate v.toNatClampNeg .null, vm := .none } : Cell) = H1
  have z1 : H1.size = H.size + 1 := by rw [← hH1, Array.size_push]
  have e1 : H1[H.size]? = some (arrV q.2.1.2.2 v.toNatClampNeg (fun _ => .null)) := by rw [← hH1, Array.getElem?_push_size, ← arrV_new]
  have o1 : ∀ x : Nat, x < H.size → H1[x]? = H[x]? := fun x hx => by rw [← hH1, Array.getElem?_push, if_neg (Nat.ne_of_lt hx)]
  rw [hR.2.2.2.2]
  refine W.widen (Nat.le_refl _) (Nat.add_le_add_left hB n) (h H1 locs ls (hR.push z1 o1 (z_c_3 (if_pos rfl)) (fun b hb => z_c_old hb) ?_) hl hv)
  show H1[z_w q (z_Z G)]? = some (vp_cell _ _)
  rw [← hR.2.2.2.2, e1, vp_cell_q]
  have hN : z_N (z_nG G 3 v.toNatClampNeg) (z_Z G) = v.toNatClampNeg := if_pos rfl
  have hA : (fun j => z_o q (z_A (z_nG G 3 v.toNatClampNeg) (z_Z G) j)) = fun _ => none := funext fun j => by
    have : z_A (z_nG G 3 v.toNatClampNeg) (z_Z G) j = 0 := if_pos rfl
    rw [this]; rfl
  have hA2 : ∀ j, z_o q (z_A (z_nG G 3 v.toNatClampNeg) (z_Z G) j) = none := fun j => congrFun hA j
  simp only [hN, hA2]
  rfl
theorem z_A_sA (G : z_G) (a j v : Nat) (a' j' : Nat) : z_A (z_sA G a j v) a' j' = if a' = a ∧ j' = j then v else z_A G a' j' := rfl
theorem v_aast (o : z_O q X cc nL own nm ret) {a v : Nat} {i : Int32} (hK : z_K G a = 3) (hi : vp_in i (z_N G a)) (hv0 : z_K G v = 106) (d : decode cc pc = .ok (.aastore, 1)) (h : z_V q X nL Q k n (z_sA G a i.toNatClampNeg v) D (pc + 1) lv st) : z_V q X nL Q k n G D pc lv (.ref (z_w q v) :: .int i :: .ref (z_w q a) :: st) := by
  intro H locs ls hR hl hv
  have hK0 : z_K G a ≠ 0 := by omega
  have hV0 : z_K G v ≠ 0 := by omega
  obtain ⟨p0, hp⟩ := hR.get hK0
  have hp1 := hp
  rw [z_c_3 hK] at hp
  obtain ⟨pv, hpv⟩ := hR.get hV0
  rw [z_c_ob (ci := 6) hv0] at hpv
  have hba : z_b q ≤ z_w q a := hR.in (hR.mem hK0)
  have hvz : v ≠ 0 := fun e => by
    have := hR.2.1.1 v (hR.mem hV0)
    omega
  have hlt : i.toNatClampNeg < z_N G a := Nat.not_le.mp fun e => hi (Or.inr e)
  have h0 : ¬ i < 0 := fun e => hi (Or.inl e)
  obtain ⟨r', hr', cellV, g1, g2, g3, -⟩ := hR.1 pv _ hpv
  have hcls := (o.kn.1 6 _ rfl).2
  obtain ⟨kA, comp, k1, k2, k3, -⟩ := (o.kn.2 2 _ rfl).2
  have hcomp : comp = q.1.1 6 := Option.some.inj (k3.symm.trans hcls.1)
  subst hcomp
  obtain ⟨kC, hkC, -⟩ := hcls.2
  refine W.aast o.ex o.cd (hR.1 p0 _ hp) (fun q h => by cases h) (fun h => by cases h) k1 k2 rfl hkC ⟨h0, by show _ < (arrV _ _ _).slots.size; rw [arrV_size]; exact hlt⟩ g1 (fun q h => by rw [g3] at h; cases h) (by rw [g2]; exact hkC) (by rw [g2]; exact va_assign hcls) rfl rfl d fun H1 e z oq => ?_
  have hP1 : va_P q.1 vwCl ((va_pl (z_aL q G) (z_ce q G D)).set p0 (z_w q a, .inl (q.2.1.2.2, z_N G a, .inr (.inr (.inr (.inr (fun j => z_o q (z_A (z_sA G a i.toNatClampNeg v) a j)))))))) H1 := by
    refine hR.1.set hR.D hp ?_ oq
    show H1[z_w q a]? = some (vp_cell _ _)
    rw [e]
    show some ((arrV _ _ _).setSlot _ _) = _
    rw [vp_cell_q, arrV_store]
    congr 2
    funext j
    unfold updV
    show _ = va_rf (z_o q (z_A (z_sA G a i.toNatClampNeg v) a j))
    rw [z_A_sA]
    by_cases hj : j = i.toNatClampNeg
    · rw [if_pos hj, if_pos ⟨rfl, hj⟩]
      unfold z_o
      rw [if_neg hvz]
      rfl
    · rw [if_neg hj, if_neg (fun h9 => hj h9.2)]
  rw [z_pl_set hR.D (hR.memA hK0) hp1] at hP1
  have hne : ∀ b, b ≠ a → z_c q (z_sA G a i.toNatClampNeg v) D b = z_c q G D b := fun b hb => by
    have h1 : ∀ j, z_A (z_sA G a i.toNatClampNeg v) b j = z_A G b j := fun j => if_neg (fun h9 => hb h9.1)
    have hf : z_fv q (z_sA G a i.toNatClampNeg v) D b = z_fv q G D b := rfl
    have h2 : z_K (z_sA G a i.toNatClampNeg v) b = z_K G b := rfl
    have h3 : z_N (z_sA G a i.toNatClampNeg v) b = z_N G b := rfl
    unfold z_c
    rw [h2, h3, hf]
    simp only [h1]
  exact h H1 _ ls (hR.upd hK0 rfl rfl rfl (z_c_3 hK) hne hP1 z (fun b hb => oq b (fun e => absurd hb (by rw [e]; exact Nat.not_lt.mpr hba)))) (z_lc hl hba _) hv
theorem v_objInit (o : z_O q X cc nL own nm ret) {i : Nat} {a : Nat} (hw : Cond.methodLink own i Lib.objectInit ∈ lw_tbl) (hwi : Cond.instanceMethod Lib.objectInit ∈ lw_tbl) (hwc : Cond.code Lib.objectInit ⟨#[0xb1]⟩ 1 none ∈ lw_tbl) (hX : x_R X = R0) (hr : 1 ≤ R0.frames ∧ 20 ≤ R0.locals) (hs : (st.map fun v => v.category).sum ≤ 8) (d : decode cc pc = .ok (.invokespecial i, 3)) (h : z_V q X nL Q k n G D (pc + 3) lv st) : z_V q X nL Q k n G D pc lv (.ref a :: st) := by
  intro H locs ls hR hl hv
  refine W.objInit o.ex o.cd o.ow (o.tw hw rfl) (o.tw hwi rfl) (o.tw hwc rfl) rfl (by rw [o.ml]; exact hv.1) rfl d (by rw [hX]; exact hr.1) (by rw [hX]; exact Nat.le_trans (Nat.add_le_add_right (lv_room hs) 12) hr.2) ?_
  exact h H locs ls hR hl hv
end ZN
section ZM
variable {q : z_Q} {X : z_X} {cc : ByteArray} {nL : Nat} {own nm : String} {ret : Option FieldType} {Q : State → Prop} {k n : Nat} {G : z_G} {D : z_D} {pc : Nat} {lv : List (Nat × Value)} {st : List Value}
variable {y : MethodName} {bytes : ByteArray} {maxL : Nat} {dp mc ms nA i b : Nat} {As : List Value} {st0 : List Value} {G1 : z_G} {D1 : z_D} {R0 : Room} {host : String}
/-- invokespecial of a nest mate's constructor -/
theorem v_callIN (o : z_O q X cc nL own nm ret) (yw : z_yw y bytes maxL none nA) (hy : y.name = "<init>") (hw : Cond.methodLinkNest own i y host ∈ z_nw) (hwi : Cond.instanceMethod y ∈ lw_tbl) (hX : x_R X = R0) (hr : dp + 1 ≤ R0.frames ∧ 8 + (maxL + 11) + 40 * dp ≤ R0.locals ∧ k + mc ≤ R0.cells ∧ n + ms ≤ R0.slots)
    (hn : As.length = nA) (hst : st0 = As.reverse ++ .ref (z_w q b) :: st) (hW : (st.map fun v => v.category).sum ≤ 8) (E : z_E q (x_l X) y bytes maxL none dp mc ms (.ref (z_w q b) :: As) G D none G1 D1) (d : decode cc pc = .ok (.invokespecial i, 3))
    (h : z_V q X nL Q (k + mc) (n + ms) G1 D1 (pc + 3) lv st) : z_V q X nL Q k n G D pc lv st0 := by
  intro H locs ls hR hl hv
  exact z_back (va_runIN (As := As) (rest := st) (n := nA) ⟨o.ex, o.cd, o.ml, o.ow, o.ts⟩ E ⟨va_cnB nA o.ts (z_GI yw.1) rfl rfl rfl (o.st.1 _ hw) (o.tw yw.2.1 rfl) yw.2.2 (by rw [hX]; exact ⟨hr.1, hr.2.1⟩), hy, o.tw hwi rfl⟩ ⟨z_Pre.blind, fun U hU hW => ⟨rfl, by rw [hU]; exact hR, o.kn.moved hW.alike, o.st.warm hW⟩⟩ rfl hn hv.1 hst (lv_room hW) d (z_cf hX hr)) hl hv h
/-- the static rows -/
theorem z_gets {C nm1 d1 : String} {v : Value} (o : z_O q X cc nL own nm ret) (hZ : va_Z C nm1 d1 v (fun a => z_b q ≤ a) (x_s X) (z_h q)) (hw : Cond.fieldLinkNest own i C nm1 d1 host ∈ z_nw) (d : decode cc pc = .ok (.getstatic i, 3)) (h : z_V q X nL Q k n G D (pc + 3) lv (v :: st)) : z_V q X nL Q k n G D pc lv st := by
  intro H locs ls hR hl hv
  obtain ⟨cf, kf, fi, f, a, cell, h1, h2, h3, h4, h5, h6, h7, h8⟩ := hZ
  exact va_WgetsN o.ex o.cd o.ow ((o.st.1 _ hw).use rfl) h1 h2 h3 h4 (by rw [hR.2.2.2.1 a (Nat.not_le.mp h8)]; exact h5) (fun e => by rw [e] at h6; cases h6) h7 rfl d (h H locs ls hR hl hv)
theorem z_sald {f : Nat → Int32} {t : Nat} {j : Int32} (o : z_O q X cc nL own nm ret) (hT : z_sr (z_b q) t f (x_s X) (z_h q)) (hj : vp_in j 4) (d : decode cc pc = .ok (.iaload, 1)) (h : z_V q X nL Q k n G D (pc + 1) lv (.int (f j.toNatClampNeg) :: st)) : z_V q X nL Q k n G D pc lv (.int j :: .ref t :: st) := by
  intro H locs ls hR hl hv
  obtain ⟨cell, h1, h2, h3, h4, h5, h6, h7⟩ := hT
  have hcA : cell.cls = q.2.1.1 := Option.some.inj (h4.symm.trans (o.kn.2 0 _ rfl).2)
  have hlt : j.toNatClampNeg < 4 := Nat.not_le.mp fun e => hj (Or.inr e)
  obtain ⟨-, kS, hkS, compS, hkindS⟩ := (o.kn.2 0 _ rfl).1 0 (fun _ => .null)
  exact W.iald (v := .int (f j.toNatClampNeg)) o.ex o.cd (by rw [hR.2.2.2.1 t h7]; exact h1) ⟨h2, kS, by rw [hcA]; exact hkS, compS, hkindS⟩ h3 (by rw [h5]; exact hj) (h6 _ hlt) rfl rfl d (h H locs ls hR hl hv)
theorem z_clone {f : Nat → Int32} {t : Nat} (o : z_O q X cc nL own nm ret) (hT : z_sr (z_b q) t f (x_s X) (z_h q))
    (hw : Cond.methodLink own i ⟨"[I", "clone", "()Ljava/lang/Object;"⟩ ∈ lw_tbl) (hws : Cond.sameMethod "[I" "java/lang/Object" "clone" "()Ljava/lang/Object;" ∈ lw_tbl) (hwn : Cond.native ⟨"java/lang/Object", "clone", "()Ljava/lang/Object;"⟩ ∈ lw_tbl) (hwi : Cond.instanceMethod ⟨"java/lang/Object", "clone", "()Ljava/lang/Object;"⟩ ∈ lw_tbl) (hwl : Cond.selects "[I" ⟨"[I", "clone", "()Ljava/lang/Object;"⟩ ⟨"java/lang/Object", "clone", "()Ljava/lang/Object;"⟩ ∈ lw_tbl) (hwc : Cond.castable "[I" "java/lang/Cloneable" ∈ z_nw)
    (hX : x_R X = R0) (hr : 1 ≤ R0.frames ∧ 22 ≤ R0.locals ∧ k + 1 ≤ R0.cells ∧ n + 4 ≤ R0.slots) (hs : (st.map fun v => v.category).sum ≤ 8) (d : decode cc pc = .ok (.invokevirtual i, 3))
    (h : z_V q X nL Q (k + 1) (n + 4) (z_nG G 1 4) (z_fD (z_nD D (z_Z G)) (z_Z G) f) (pc + 3) lv (.ref (z_w q (z_Z G)) :: st)) : z_V q X nL Q k n G D pc lv (.ref t :: st) := by
  intro H locs ls hR hl hv
  obtain ⟨cell, h1, hob, hun, h2, hsz, hsl, h3⟩ := hT
  have hcA : cell.cls = q.2.1.1 := Option.some.inj (h2.symm.trans (o.kn.2 0 _ rfl).2)
  have hcl : ({ cls := cell.cls, slots := cell.slots } : Cell) = vp_cell q.2.1.1 (4, .inl f) := by
    rw [vp_cell_i, hcA]
    unfold arrV
    congr 1
    apply Array.ext
    · rw [hsz, Array.size_ofFn]
    · intro j hj1 hj2
      have hj4 : j < 4 := by rw [hsz] at hj1; exact hj1
      have e9 := hsl j hj4
      rw [Array.getElem?_eq_getElem hj1] at e9
      rw [Option.some.inj e9, Array.getElem_ofFn]
  obtain ⟨c0, t0', f1, f2, f3⟩ := Cond.castable_spec (va_Nw.use (A := x_a X) rfl (o.st.1 _ hwc))
  cases h2.symm.trans f1
  intro T hT Y
  have hcellT : T.heap[t]? = some cell := by rw [hT, hR.2.2.2.1 t h3]; exact h1
  obtain ⟨-, kA, hkA, comp, hkind⟩ := State.isArrayOf_alike Y.warmed.alike ((o.kn.2 0 _ rfl).1 0 (fun _ => .null))
  obtain ⟨-, kS, hkS, compS, hkindS⟩ := (o.kn.2 0 _ rfl).1 0 (fun _ => .null)
  obtain ⟨vm', Y', go⟩ := Y.cloneArray o.ex o.ow (o.tw hw rfl) (o.tw hws rfl) (o.tw hwn rfl) (o.tw hwi rfl) (o.tw hwl rfl) (a := t) (cell := cell) hcellT hob hun h2 f2 f3
    (fun j v hjv => by
      have hk' : T.vm.classes[cell.cls]? = some kA := by rw [hcA]; exact hkA
      have hv2 : ∃ x : Int32, v = .int x := by
        have hj4 : j < 4 := by
          have := (Array.getElem?_eq_some_iff.mp hjv).1
          rw [hsz] at this
          exact this
        exact ⟨f j, (Option.some.inj (hjv.symm.trans (hsl j hj4)))⟩
      obtain ⟨x, rfl⟩ := hv2
      simp [State.fitsSlot, State.slotType?, hk', hkind, fits])
    (g := F0 (x_m X) pc ls (.ref t :: st)) rfl (by rw [o.ml]; exact hv.1) rfl (by rw [o.cd]; exact d) (by rw [hX]; exact hr.1) (by rw [hX]; exact Nat.le_trans (Nat.add_le_add_right (lv_room hs) 14) hr.2.1) (by rw [hX]; exact hr.2.2.1) (by rw [hX, hsz]; exact hr.2.2.2) (hloader := Vm.clonesLoader_of_array (by rw [hcA]; exact hkS) hkindS)
  rw [hcl] at Y' go
  rw [hsz] at Y'
  have z1 : (H.push (vp_cell q.2.1.1 (4, .inl f))).size = H.size + 1 := Array.size_push _
  have o1 : ∀ x : Nat, x < H.size → (H.push (vp_cell q.2.1.1 (4, .inl f)))[x]? = H[x]? := fun x hx => by rw [Array.getElem?_push, if_neg (Nat.ne_of_lt hx)]
  have e1 : (H.push (vp_cell q.2.1.1 (4, .inl f)))[H.size]? = some (vp_cell q.2.1.1 (4, .inl f)) := Array.getElem?_push_size
  have hR1 : z_Rel q (z_nG G 1 4) (z_fD (z_nD D (z_Z G)) (z_Z G) f) (H.push (vp_cell q.2.1.1 (4, .inl f))) := by
    refine hR.push z1 o1 (z_c_1 (if_pos rfl)) (fun b hb => ?_) ?_
    · have hU : z_U (z_fD (z_nD D (z_Z G)) (z_Z G) f) b = z_U (z_nD D (z_Z G)) b := funext fun j => if_neg hb
      have hY : z_Y (z_fD (z_nD D (z_Z G)) (z_Z G) f) b = z_Y (z_nD D (z_Z G)) b := rfl
      have hf : z_fv q (z_nG G 1 4) (z_fD (z_nD D (z_Z G)) (z_Z G) f) b = z_fv q (z_nG G 1 4) (z_nD D (z_Z G)) b := rfl
      rw [← z_c_old (kd := 1) (len := 4) hb]
      unfold z_c
      rw [hU, hY, hf]
    · have hN : z_N (z_nG G 1 4) (z_Z G) = 4 := if_pos rfl
      have hU : z_U (z_fD (z_nD D (z_Z G)) (z_Z G) f) (z_Z G) = f := funext fun j => if_pos rfl
      show (H.push (vp_cell q.2.1.1 (4, .inl f)))[z_w q (z_Z G)]? = some (vp_cell _ _)
      rw [hN, hU, ← hR.2.2.2.2]
      exact e1
  obtain ⟨t2, a1, b1⟩ := h _ locs ls hR1 hl hv ((T.setVm vm').pushCell (vp_cell q.2.1.1 (4, .inl f))) (by rw [← hT]; rfl) Y'
  refine ⟨t2, go t2 ?_, b1⟩
  rw [hT]
  rw [← hR.2.2.2.2] at a1
  exact a1
/-- the cast behind clone() -/
theorem v_castI (o : z_O q X cc nL own nm ret) {a : Nat} (hK : z_K G a = 1) (hw : Cond.classLink own i "[I" ∈ lw_tbl) (d : decode cc pc = .ok (.checkcast i, 3)) (h : z_V q X nL Q k n G D (pc + 3) lv (.ref (z_w q a) :: st)) : z_V q X nL Q k n G D pc lv (.ref (z_w q a) :: st) := by
  intro H locs ls hR hl hv
  obtain ⟨p0, hp⟩ := hR.get (show z_K G a ≠ 0 by omega)
  rw [z_c_1 hK] at hp
  exact va_castA o.ex o.cd o.ow (o.tw hw rfl) hR.1 p0 hp (o.kn.2 0 _ rfl).2 d (h H locs ls hR hl hv)
end ZM
