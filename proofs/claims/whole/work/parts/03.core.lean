/-! the tables' words that every state keeps -/
def z_tb : List Cond := lw_tbl.filter goodWord
theorem z_tb_in {w : Cond} (h : w ∈ lw_tbl) (g : goodWord w = true) : w ∈ z_tb := List.mem_filter.mpr ⟨h, g⟩
theorem z_tb_good {w : Cond} (h : w ∈ z_tb) : (w.onTables && w.keeps) = true ∨ ∃ ty, w = .arrayClass ty := good_of_word (List.mem_filter.mp h).2
def z_T : Nat → List (Nat × Nat)
  | 0 => [(2, 0), (0, 1), (0, 2), (2, 3), (0, 4), (0, 5)]
  | 1 => [(2, 100), (0, 101), (0, 102), (0, 103), (0, 104), (0, 105)]
  | 2 => [(2, 200), (2, 201), (0, 202), (0, 203)]
  | 3 => [(2, 300), (2, 301), (2, 302), (0, 303), (2, 304), (2, 305), (2, 306), (2, 307), (2, 308), (2, 309), (0, 310), (0, 311), (2, 312), (2, 313)]
  | 4 => [(2, 400), (0, 401), (0, 402), (1, 403), (0, 404), (1, 405), (0, 406), (2, 407), (2, 408), (0, 409), (1, 410), (0, 411), (2, 412), (2, 413), (2, 414)]
  | 5 => [(2, 500), (0, 501)]
  | 6 => [(2, 600), (2, 601), (2, 602), (2, 603), (0, 604), (2, 605)]
  | 7 => [(2, 700), (2, 701), (0, 702)]
  | 8 => [(2, 800), (0, 801), (1, 802), (2, 803), (0, 804), (0, 805), (0, 806), (0, 807), (0, 808), (1, 809), (0, 810), (0, 811), (0, 812), (1, 813)]
  | 9 => [(2, 900), (2, 901), (2, 902), (2, 903), (2, 904), (2, 905), (0, 906), (0, 907), (0, 908), (0, 909)]
  | 10 => [(2, 1000), (2, 1001), (2, 1002), (2, 1003), (2, 1004), (2, 1005), (2, 1006)]
  | 11 => [(2, 1100), (0, 1101), (1, 1102), (0, 1103), (0, 1104), (0, 1105), (0, 1106), (0, 1107), (0, 1108), (0, 1109), (1, 1110), (2, 1111), (0, 1112), (2, 1113), (0, 1114), (0, 1115), (0, 1116), (0, 1117), (0, 1118), (1, 1119), (0, 1120), (0, 1121), (0, 1122), (1, 1123), (0, 1124), (2, 1125), (0, 1126), (0, 1127), (0, 1128), (0, 1129), (0, 1130), (0, 1131), (1, 1132), (2, 1133), (2, 1134), (0, 1135), (1, 1136), (0, 1137), (2, 1138), (2, 1139), (2, 1140), (2, 1141), (2, 1142), (0, 1143), (0, 1144), (0, 1145), (0, 1146), (2, 1147), (0, 1148), (0, 1149), (0, 1150), (0, 1151), (0, 1152), (0, 1153), (1, 1154), (2, 1155), (0, 1156), (0, 1157), (0, 1158), (0, 1159), (0, 1160), (0, 1161), (1, 1162), (2, 1163), (2, 1164), (0, 1165), (2, 1166), (2, 1167), (2, 1168), (2, 1169), (0, 1170), (0, 1171), (0, 1172), (2, 1173), (2, 1174)]
  | _ => []
/-! the store: its shape (addresses, kinds, lengths, references, references in rows, size) and its data (ints, longs of fields by key and address; rows of ints and longs by address and place) -/
abbrev z_G : Type := List Nat × (Nat → Nat) × (Nat → Nat) × (Nat → Nat → Nat) × (Nat → Nat → Nat) × Nat
abbrev z_D : Type := (Nat → Nat → Int32) × (Nat → Nat → Int64) × (Nat → Nat → Int32) × (Nat → Nat → Int64)
def z_L (G : z_G) : List Nat := G.1
def z_K (G : z_G) (a : Nat) : Nat := G.2.1 a
def z_N (G : z_G) (a : Nat) : Nat := G.2.2.1 a
def z_R (G : z_G) (k a : Nat) : Nat := G.2.2.2.1 k a
def z_A (G : z_G) (a j : Nat) : Nat := G.2.2.2.2.1 a j
def z_Z (G : z_G) : Nat := G.2.2.2.2.2
def z_I (D : z_D) (k a : Nat) : Int32 := D.1 k a
def z_J (D : z_D) (k a : Nat) : Int64 := D.2.1 k a
def z_U (D : z_D) (a j : Nat) : Int32 := D.2.2.1 a j
def z_Y (D : z_D) (a j : Nat) : Int64 := D.2.2.2 a j
def z_up {α : Type} (f : Nat → Nat → α) (k a : Nat) (v : α) : Nat → Nat → α := fun k' a' => if k' = k ∧ a' = a then v else f k' a'
def z_sI (D : z_D) (k a : Nat) (v : Int32) : z_D := (z_up D.1 k a v, D.2)
def z_sJ (D : z_D) (k a : Nat) (v : Int64) : z_D := (D.1, z_up D.2.1 k a v, D.2.2)
def z_sU (D : z_D) (a j : Nat) (v : Int32) : z_D := (D.1, D.2.1, z_up D.2.2.1 a j v, D.2.2.2)
def z_sY (D : z_D) (a j : Nat) (v : Int64) : z_D := (D.1, D.2.1, D.2.2.1, z_up D.2.2.2 a j v)
def z_sR (G : z_G) (k a b : Nat) : z_G := (G.1, G.2.1, G.2.2.1, z_up G.2.2.2.1 k a b, G.2.2.2.2)
def z_sA (G : z_G) (a j b : Nat) : z_G := (G.1, G.2.1, G.2.2.1, G.2.2.2.1, z_up G.2.2.2.2.1 a j b, G.2.2.2.2.2)
theorem z_up_at {α : Type} (f : Nat → Nat → α) (k a : Nat) (v : α) (k' a' : Nat) : z_up f k a v k' a' = if k' = k ∧ a' = a then v else f k' a' := rfl
theorem z_I_sI (D : z_D) (k a : Nat) (v : Int32) (k' a' : Nat) : z_I (z_sI D k a v) k' a' = if k' = k ∧ a' = a then v else z_I D k' a' := rfl
theorem z_I_sJ (D : z_D) (k a : Nat) (v : Int64) (k' a' : Nat) : z_I (z_sJ D k a v) k' a' = z_I D k' a' := rfl
theorem z_I_sU (D : z_D) (k a : Nat) (v : Int32) (k' a' : Nat) : z_I (z_sU D k a v) k' a' = z_I D k' a' := rfl
theorem z_I_sY (D : z_D) (k a : Nat) (v : Int64) (k' a' : Nat) : z_I (z_sY D k a v) k' a' = z_I D k' a' := rfl
theorem z_J_sJ (D : z_D) (k a : Nat) (v : Int64) (k' a' : Nat) : z_J (z_sJ D k a v) k' a' = if k' = k ∧ a' = a then v else z_J D k' a' := rfl
theorem z_J_sI (D : z_D) (k a : Nat) (v : Int32) (k' a' : Nat) : z_J (z_sI D k a v) k' a' = z_J D k' a' := rfl
theorem z_J_sU (D : z_D) (k a : Nat) (v : Int32) (k' a' : Nat) : z_J (z_sU D k a v) k' a' = z_J D k' a' := rfl
theorem z_J_sY (D : z_D) (k a : Nat) (v : Int64) (k' a' : Nat) : z_J (z_sY D k a v) k' a' = z_J D k' a' := rfl
theorem z_U_sU (D : z_D) (k a : Nat) (v : Int32) (k' a' : Nat) : z_U (z_sU D k a v) k' a' = if k' = k ∧ a' = a then v else z_U D k' a' := rfl
theorem z_U_sI (D : z_D) (k a : Nat) (v : Int32) (k' a' : Nat) : z_U (z_sI D k a v) k' a' = z_U D k' a' := rfl
theorem z_U_sJ (D : z_D) (k a : Nat) (v : Int64) (k' a' : Nat) : z_U (z_sJ D k a v) k' a' = z_U D k' a' := rfl
theorem z_U_sY (D : z_D) (k a : Nat) (v : Int64) (k' a' : Nat) : z_U (z_sY D k a v) k' a' = z_U D k' a' := rfl
theorem z_Y_sY (D : z_D) (k a : Nat) (v : Int64) (k' a' : Nat) : z_Y (z_sY D k a v) k' a' = if k' = k ∧ a' = a then v else z_Y D k' a' := rfl
theorem z_Y_sI (D : z_D) (k a : Nat) (v : Int32) (k' a' : Nat) : z_Y (z_sI D k a v) k' a' = z_Y D k' a' := rfl
theorem z_Y_sJ (D : z_D) (k a : Nat) (v : Int64) (k' a' : Nat) : z_Y (z_sJ D k a v) k' a' = z_Y D k' a' := rfl
theorem z_Y_sU (D : z_D) (k a : Nat) (v : Int32) (k' a' : Nat) : z_Y (z_sU D k a v) k' a' = z_Y D k' a' := rfl
/-! what is fixed over a whole run: where the classes and fields are, the classes of the rows, the size of the heap at the start, the heap at the start, the two static rows -/
abbrev z_Q : Type := va_G × (ClassId × ClassId × ClassId) × Nat × Heap × Nat × Nat × Nat × Nat × (Nat → Int32)
abbrev z_sb (q : z_Q) : Nat := q.2.2.2.2.2.2.1
abbrev z_sL (q : z_Q) : Nat := q.2.2.2.2.2.2.2.1
abbrev z_sx (q : z_Q) : Nat → Int32 := q.2.2.2.2.2.2.2.2
abbrev z_b (q : z_Q) : Nat := q.2.2.1
abbrev z_h (q : z_Q) : Heap := q.2.2.2.1
def z_ty (q : z_Q) : List (ClassId × FieldType) := [(q.2.1.1, .int), (q.2.1.2.1, .long), (q.2.1.2.2, .object "FlashTrust$Shelf")]
/-- an address of the store is counted from the heap's size at the start; 0 is null -/
def z_w (q : z_Q) (a : Nat) : Nat := z_b q - 1 + a
def z_o (q : z_Q) (n : Nat) : Option Nat := if n = 0 then none else some (z_w q n)
def z_fv (q0 : z_Q) (G : z_G) (D : z_D) (a : Nat) (q : Nat × Nat) : Value := match q.1 with
  | 0 => .int (z_I D q.2 a)
  | 1 => .long (z_J D q.2 a)
  | _ => va_rf (z_o q0 (z_R G q.2 a))
/-- an object's kind is 100 and its class's number; 1, 2, 3: rows of ints, longs, references -/
def z_c (q : z_Q) (G : z_G) (D : z_D) (a : Nat) : va_E :=
  if 100 ≤ z_K G a then .inr (z_K G a - 100, (z_T (z_K G a - 100)).map (z_fv q G D a))
  else if z_K G a = 1 then .inl (q.2.1.1, z_N G a, .inl (z_U D a))
  else if z_K G a = 2 then .inl (q.2.1.2.1, z_N G a, .inr (.inl (z_Y D a)))
  else .inl (q.2.1.2.2, z_N G a, .inr (.inr (.inr (.inr (fun j => z_o q (z_A G a j))))))
theorem z_c_ob {q : z_Q} {G : z_G} {D : z_D} {a ci : Nat} (h : z_K G a = 100 + ci) : z_c q G D a = .inr (ci, (z_T ci).map (z_fv q G D a)) := by
  unfold z_c
  rw [h, if_pos (Nat.le_add_right _ _), Nat.add_sub_cancel_left]
theorem z_c_1 {q : z_Q} {G : z_G} {D : z_D} {a : Nat} (h : z_K G a = 1) : z_c q G D a = .inl (q.2.1.1, z_N G a, .inl (z_U D a)) := by
  unfold z_c
  rw [h]; rfl
theorem z_c_2 {q : z_Q} {G : z_G} {D : z_D} {a : Nat} (h : z_K G a = 2) : z_c q G D a = .inl (q.2.1.2.1, z_N G a, .inr (.inl (z_Y D a))) := by
  unfold z_c
  rw [h]; rfl
theorem z_c_3 {q : z_Q} {G : z_G} {D : z_D} {a : Nat} (h : z_K G a = 3) : z_c q G D a = .inl (q.2.1.2.2, z_N G a, .inr (.inr (.inr (.inr (fun j => z_o q (z_A G a j)))))) := by
  unfold z_c
  rw [h]; rfl
def z_ok (G : z_G) : Prop := (∀ a ∈ z_L G, 1 ≤ a) ∧ (z_L G).Nodup ∧ ∀ a, z_K G a ≠ 0 → a ∈ z_L G
def z_aL (q : z_Q) (G : z_G) : List Nat := (z_L G).map (z_w q)
def z_ce (q : z_Q) (G : z_G) (D : z_D) (A : Nat) : va_E := z_c q G D (A - (z_b q - 1))
theorem z_ce_w {q : z_Q} {G : z_G} {D : z_D} {a : Nat} : z_ce q G D (z_w q a) = z_c q G D a := by
  unfold z_ce z_w
  rw [Nat.add_sub_cancel_left]
theorem z_w_inj {q : z_Q} {a b : Nat} (h : z_w q a = z_w q b) : a = b := by
  unfold z_w at h
  omega
def z_Rel (q : z_Q) (G : z_G) (D : z_D) (H : Heap) : Prop := va_P q.1 vwCl (va_pl (z_aL q G) (z_ce q G D)) H ∧ z_ok G ∧ (0 < z_b q ∧ z_b q ≤ H.size) ∧ (∀ a, a < z_b q → H[a]? = (z_h q)[a]?) ∧ H.size = z_w q (z_Z G)
def z_nw : List Cond := [(Jvm.Cond.methodLinkNest "FlashTrust" (35 : Nat) ({ cls := "FlashTrust$Signatures", name := "<init>", desc := "()V" } : Jvm.MethodName) "FlashTrust"),
  (Jvm.Cond.fieldLinkNest "FlashTrust$Maker" (9 : Nat) "FlashTrust" "FACTORY_KEYS" "[I" "FlashTrust"),
  (Jvm.Cond.castable "[I" "java/lang/Cloneable"),
  (Jvm.Cond.fieldLinkNest "FlashTrust$Maker" (23 : Nat) "FlashTrust" "FACTORY_THRESHOLDS" "[I" "FlashTrust"),
  (Jvm.Cond.methodLinkNest "FlashTrust$Shelf" (11 : Nat) ({ cls := "FlashTrust$Paper", name := "<init>", desc := "()V" } : Jvm.MethodName) "FlashTrust"),
  (Jvm.Cond.methodLinkNest "FlashTrust$Entry" (11 : Nat) ({ cls := "FlashTrust$Paper", name := "<init>", desc := "()V" } : Jvm.MethodName) "FlashTrust"),
  (Jvm.Cond.fieldLinkNest "FlashTrust$Paper" (53 : Nat) "FlashTrust" "FACTORY_KEYS" "[I" "FlashTrust"),
  (Jvm.Cond.fieldLinkNest "FlashTrust$Paper" (56 : Nat) "FlashTrust" "FACTORY_THRESHOLDS" "[I" "FlashTrust"),
  (Jvm.Cond.methodLinkNest "FlashTrust$Update" (11 : Nat) ({ cls := "FlashTrust$Paper", name := "<init>", desc := "()V" } : Jvm.MethodName) "FlashTrust")]
def z_k1 (j : Nat) : Int32 := match j with | 0 => 7 | 1 => 8 | 2 => 16 | _ => 96
def z_k2 (j : Nat) : Int32 := match j with | 0 => 2 | 1 => 1 | 2 => 1 | _ => 2
/-- a static row of four ints, as it is at the start; its class is the one called "[I" -/
def z_sr (b t : Nat) (f : Nat → Int32) (U : State) (H : Heap) : Prop := ∃ cell : Cell, H[t]? = some cell ∧ (∀ k, cell.vm ≠ .statics k) ∧ cell.vm ≠ .unknown ∧ U.vm.findClass "[I" = some cell.cls ∧ cell.slots.size = 4 ∧ (∀ j, j < 4 → cell.slots[j]? = some (.int (f j))) ∧ t < b
theorem z_sr.moved {b t : Nat} {f : Nat → Int32} {u U : State} {H : Heap} (hvm : u.vm.Alike U.vm) (h : z_sr b t f u H) : z_sr b t f U H := by
  obtain ⟨cell, h1, h2, h3, h4, h5⟩ := h
  exact ⟨cell, h1, h2, h3, by rw [hvm.findClass]; exact h4, h5⟩
/-- what the start gives beside the words that every state keeps -/
def z_St (q : z_Q) (U : State) : Prop := (∀ w ∈ z_nw, va_Nw w U) ∧ va_AO "FlashTrust$Shelf" U ∧
  (va_Z "FlashTrust" "FACTORY_KEYS" "[I" (.ref q.2.2.2.2.1) (fun a => z_b q ≤ a) U (z_h q) ∧ z_sr (z_b q) q.2.2.2.2.1 z_k1 U (z_h q)) ∧
  (va_Z "FlashTrust" "FACTORY_THRESHOLDS" "[I" (.ref q.2.2.2.2.2.1) (fun a => z_b q ≤ a) U (z_h q) ∧ z_sr (z_b q) q.2.2.2.2.2.1 z_k2 U (z_h q)) ∧ 0 < z_b q ∧ va_X (z_sb q) (z_sL q) (z_sx q) U (z_h q) ∧ z_sb q < z_b q ∧ z_sL q ≤ 3073
theorem z_nw_on : ∀ w ∈ z_nw, w.onTables = true := by
  intro w hw
  simp only [z_nw, List.mem_cons, List.not_mem_nil, or_false] at hw
  rcases hw with rfl | rfl | rfl | rfl | rfl | rfl | rfl | rfl | rfl <;> rfl
theorem z_nw_warm {s U : State} (hW : s.WarmedH U.vm) : ∀ w ∈ z_nw, va_Nw w s → va_Nw w U := by
  intro w hw
  simp only [z_nw, List.mem_cons, List.not_mem_nil, or_false] at hw
  rcases hw with rfl | rfl | rfl | rfl | rfl | rfl | rfl | rfl | rfl <;> intro h <;> first | exact va_Nw.warmF hW h | exact va_Nw.warmM hW h | exact va_Nw.warmC hW h
theorem z_St.warm {q : z_Q} {s U : State} (hW : s.WarmedH U.vm) (h : z_St q s) : z_St q U :=
  ⟨fun w hw => z_nw_warm hW w hw (h.1 w hw), h.2.1.moved hW.alike, ⟨h.2.2.1.1.moved hW.alike, h.2.2.1.2.moved hW.alike⟩, ⟨h.2.2.2.1.1.moved hW.alike, h.2.2.2.1.2.moved hW.alike⟩, h.2.2.2.2.1, h.2.2.2.2.2.1.moved hW.alike, h.2.2.2.2.2.2⟩
theorem z_St.same {q : z_Q} {s U : State} (e : s.vm = U.vm) (h : z_St q s) : z_St q U :=
  have ha : s.vm.Alike U.vm := e ▸ Vm.Alike.refl s.vm
  ⟨fun w hw => (h.1 w hw).same (z_nw_on w hw) e, h.2.1.moved ha, ⟨h.2.2.1.1.moved ha, h.2.2.1.2.moved ha⟩, ⟨h.2.2.2.1.1.moved ha, h.2.2.2.1.2.moved ha⟩, h.2.2.2.2.1, h.2.2.2.2.2.1.moved ha, h.2.2.2.2.2.2⟩
abbrev z_X : Type := Program × Launch × Env × Room × State × MethodId × Array Value × List Frame × Method × Code
abbrev x_p (X : z_X) : Program := X.1
abbrev x_l (X : z_X) : Launch := X.2.1
abbrev x_e (X : z_X) : Env := X.2.2.1
abbrev x_R (X : z_X) : Room := X.2.2.2.1
abbrev x_s (X : z_X) : State := X.2.2.2.2.1
abbrev x_m (X : z_X) : MethodId := X.2.2.2.2.2.1
abbrev x_a (X : z_X) : Array Value := X.2.2.2.2.2.2.1
abbrev x_b (X : z_X) : List Frame := X.2.2.2.2.2.2.2.1
abbrev x_h (X : z_X) : Method := X.2.2.2.2.2.2.2.2.1
abbrev x_c (X : z_X) : Code := X.2.2.2.2.2.2.2.2.2
abbrev z_W (X : z_X) (H : Heap) (locs : List Loc) (k n : Nat) (Q : State → Prop) (g : JFrame) : Prop := W (x_p X) (x_l X) (x_e X) (x_R X) (x_s X) (x_m X) (x_a X) (x_b X) (x_h X) (x_c X) H locs k n Q g
/-- from here the method comes to Q -/
def z_V (q : z_Q) (X : z_X) (nL : Nat) (Q : State → Prop) (k n : Nat) (G : z_G) (D : z_D) (pc : Nat) (lv : List (Nat × Value)) (st : List Value) : Prop :=
  ∀ (H : Heap) (locs : List Loc) (ls : Array Slot), z_Rel q G D H → (∀ l ∈ locs, z_b q ≤ l.base) → lv_has ls nL lv → z_W X H locs k n Q (F0 (x_m X) pc ls st)
/-- what a method's body stands on -/
def z_O (q : z_Q) (X : z_X) (cc : ByteArray) (nL : Nat) (own nm : String) (ret : Option FieldType) : Prop :=
  (x_p X).tables.exec = Jvm.exec ∧ (x_c X).code = cc ∧ (x_h X).sig.returnType = ret ∧ (x_c X).maxLocals = nL ∧ (x_s X).vm.findClass own = some (x_m X).cls ∧ (∀ w ∈ z_tb, w.before (x_a X) (x_s X) = true) ∧ (x_h X).locks = false ∧ va_K q.1 vwCl (z_ty q) (x_s X) ∧ z_St q (x_s X) ∧ (x_h X).name = nm ∧ z_b q ≤ (x_s X).heap.size ∧ (∀ a, a < z_b q → (x_s X).heap[a]? = (z_h q)[a]?)
section ZO
variable {q : z_Q} {X : z_X} {cc : ByteArray} {nL : Nat} {own nm : String} {ret : Option FieldType}
theorem z_O.ex (o : z_O q X cc nL own nm ret) : (x_p X).tables.exec = Jvm.exec := o.1
theorem z_O.cd (o : z_O q X cc nL own nm ret) : (x_c X).code = cc := o.2.1
theorem z_O.rt (o : z_O q X cc nL own nm ret) : (x_h X).sig.returnType = ret := o.2.2.1
theorem z_O.ml (o : z_O q X cc nL own nm ret) : (x_c X).maxLocals = nL := o.2.2.2.1
theorem z_O.ow (o : z_O q X cc nL own nm ret) : (x_s X).vm.findClass own = some (x_m X).cls := o.2.2.2.2.1
theorem z_O.ts (o : z_O q X cc nL own nm ret) : ∀ w ∈ z_tb, w.before (x_a X) (x_s X) = true := o.2.2.2.2.2.1
theorem z_O.tw (o : z_O q X cc nL own nm ret) {w : Cond} (h : w ∈ lw_tbl) (g : goodWord w = true) : w.before (x_a X) (x_s X) = true := o.ts w (z_tb_in h g)
theorem z_O.lk (o : z_O q X cc nL own nm ret) : (x_h X).locks = false := o.2.2.2.2.2.2.1
theorem z_O.kn (o : z_O q X cc nL own nm ret) : va_K q.1 vwCl (z_ty q) (x_s X) := o.2.2.2.2.2.2.2.1
theorem z_O.st (o : z_O q X cc nL own nm ret) : z_St q (x_s X) := o.2.2.2.2.2.2.2.2.1
theorem z_O.na (o : z_O q X cc nL own nm ret) : (x_h X).name = nm := o.2.2.2.2.2.2.2.2.2.1
theorem z_O.bs (o : z_O q X cc nL own nm ret) : z_b q ≤ (x_s X).heap.size := o.2.2.2.2.2.2.2.2.2.2.1
theorem z_O.hp (o : z_O q X cc nL own nm ret) : ∀ a, a < z_b q → (x_s X).heap[a]? = (z_h q)[a]? := o.2.2.2.2.2.2.2.2.2.2.2
end ZO
/-! the relation's own laws -/
theorem z_nodup_D {A : Nat → Prop} {L : List Nat} {f : Nat → va_E} (h : L.Nodup) (hA : ∀ a ∈ L, A a) : va_D A (va_pl L f) := by
  refine ⟨fun i j x y hi hj hxy => ?_, fun k x hk => ?_⟩
  · simp only [va_pl, List.getElem?_map] at hi hj
    cases h1 : L[i]? with
    | none => rw [h1] at hi; cases hi
    | some a =>
      cases h2 : L[j]? with
      | none => rw [h2] at hj; cases hj
      | some b =>
        rw [h1] at hi; rw [h2] at hj
        cases hi; cases hj
        have hxy : a = b := hxy
        subst hxy
        obtain ⟨l1, e1⟩ := List.getElem?_eq_some_iff.mp h1
        obtain ⟨l2, e2⟩ := List.getElem?_eq_some_iff.mp h2
        rcases Nat.lt_trichotomy i j with hlt | rfl | hlt
        · exact absurd (e1.trans e2.symm) (List.pairwise_iff_getElem.mp h i j l1 l2 hlt)
        · rfl
        · exact absurd (e2.trans e1.symm) (List.pairwise_iff_getElem.mp h j i l2 l1 hlt)
  · simp only [va_pl, List.getElem?_map] at hk
    cases h1 : L[k]? with
    | none => rw [h1] at hk; cases hk
    | some a =>
      rw [h1] at hk
      cases hk
      exact hA a (List.mem_of_getElem? h1)
theorem z_Rel.in {q : z_Q} {G : z_G} {D : z_D} {H : Heap} (h : z_Rel q G D H) {a : Nat} (ha : a ∈ z_L G) : z_b q ≤ z_w q a := by
  have h1 := h.2.1.1 a ha
  have h2 := h.2.2.1.1
  unfold z_w
  omega
theorem z_aL_nd {q : z_Q} {G : z_G} (h : (z_L G).Nodup) : (z_aL q G).Nodup := by
  unfold z_aL
  exact List.pairwise_map.mpr (List.Pairwise.imp (fun hne he => hne (z_w_inj he)) h)
theorem z_Rel.D {q : z_Q} {G : z_G} {D : z_D} {H : Heap} (h : z_Rel q G D H) : va_D (fun a => z_b q ≤ a) (va_pl (z_aL q G) (z_ce q G D)) := z_nodup_D (z_aL_nd h.2.1.2.1) (fun a ha => by
  obtain ⟨b, hb, rfl⟩ := List.mem_map.mp ha
  exact h.in hb)
theorem z_Rel.mem {q : z_Q} {G : z_G} {D : z_D} {H : Heap} (h : z_Rel q G D H) {a : Nat} (hK : z_K G a ≠ 0) : a ∈ z_L G := h.2.1.2.2 a hK
theorem z_Rel.memA {q : z_Q} {G : z_G} {D : z_D} {H : Heap} (h : z_Rel q G D H) {a : Nat} (hK : z_K G a ≠ 0) : z_w q a ∈ z_aL q G := List.mem_map.mpr ⟨a, h.mem hK, rfl⟩
theorem z_Rel.get {q : z_Q} {G : z_G} {D : z_D} {H : Heap} (h : z_Rel q G D H) {a : Nat} (hK : z_K G a ≠ 0) : ∃ k : Nat, (va_pl (z_aL q G) (z_ce q G D))[k]? = some (z_w q a, z_c q G D a) := by
  obtain ⟨k, hk⟩ := va_pl_get (X := []) (f := z_ce q G D) (h.memA hK)
  rw [z_ce_w] at hk
  exact ⟨k, hk⟩
theorem z_pl_set {A : Nat → Prop} {q : z_Q} {G : z_G} {D : z_D} {a k : Nat} {e : va_E} (hD : va_D A (va_pl (z_aL q G) (z_ce q G D))) (h : z_w q a ∈ z_aL q G) (hk : (va_pl (z_aL q G) (z_ce q G D))[k]? = some (z_w q a, z_c q G D a)) : (va_pl (z_aL q G) (z_ce q G D)).set k (z_w q a, e) = va_pl (z_aL q G) (va_up (z_ce q G D) (z_w q a) e) := va_pl_set (X := []) hD h (by rw [z_ce_w]; exact hk)
