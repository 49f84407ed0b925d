/-! words for pure functions -/
def z_gK {α : Type} (G : z_G) (kd a : Nat) (x : Option α) : Option α := if z_K G a = kd then x else none
def z_gA {α : Type} (G : z_G) (kd a : Nat) (i : Int32) (x : Option α) : Option α := if z_K G a = kd ∧ 0 ≤ i ∧ i.toNatClampNeg < z_N G a then x else none
def z_gB {α : Type} (v : Int32) (x : Option α) : Option α := if v = 0 ∨ v = 1 then x else none
def z_gN {α : Type} (v : Int32) (x : Option α) : Option α := if v = 0 then none else x
def z_g4 {α : Type} (i : Int32) (x : Option α) : Option α := if 0 ≤ i ∧ i.toNatClampNeg < 4 then x else none
def z_gL {α : Type} (v : Int32) (x : Option α) : Option α := if 0 ≤ v ∧ v.toNatClampNeg ≤ 3400 then x else none
theorem z_g4_of {α : Type} {i : Int32} {x : Option α} {r : α} (h : z_g4 i x = some r) : vp_in i 4 ∧ x = some r := by
  unfold z_g4 at h
  by_cases c : 0 ≤ i ∧ i.toNatClampNeg < 4
  · rw [if_pos c] at h
    refine ⟨fun e => ?_, h⟩
    rcases e with e | e
    · have := c.1
      rw [Int32.le_iff_toInt_le] at this
      rw [Int32.lt_iff_toInt_lt] at e
      omega
    · omega
  · rw [if_neg c] at h; cases h
theorem z_gL_of {α : Type} {v : Int32} {x : Option α} {r : α} (h : z_gL v x = some r) : 0 ≤ v ∧ v.toNatClampNeg ≤ 3400 ∧ x = some r := by
  unfold z_gL at h
  by_cases c : 0 ≤ v ∧ v.toNatClampNeg ≤ 3400
  · rw [if_pos c] at h; exact ⟨c.1, c.2, h⟩
  · rw [if_neg c] at h; cases h
def z_gS {α : Type} (L : Nat) (i : Int32) (x : Option α) : Option α := if 0 ≤ i ∧ i.toNatClampNeg < L then x else none
theorem z_gS_of {α : Type} {L : Nat} {i : Int32} {x : Option α} {r : α} (h : z_gS L i x = some r) : vp_in i L ∧ x = some r := by
  unfold z_gS at h
  by_cases c : 0 ≤ i ∧ i.toNatClampNeg < L
  · rw [if_pos c] at h
    refine ⟨fun e => ?_, h⟩
    rcases e with e | e
    · have := c.1
      rw [Int32.le_iff_toInt_le] at this
      rw [Int32.lt_iff_toInt_lt] at e
      omega
    · omega
  · rw [if_neg c] at h; cases h
theorem z_gK_of {α : Type} {G : z_G} {kd a : Nat} {x : Option α} {r : α} (h : z_gK G kd a x = some r) : z_K G a = kd ∧ x = some r := by
  unfold z_gK at h
  by_cases c : z_K G a = kd
  · rw [if_pos c] at h; exact ⟨c, h⟩
  · rw [if_neg c] at h; cases h
theorem z_gA_of {α : Type} {G : z_G} {kd a : Nat} {i : Int32} {x : Option α} {r : α} (h : z_gA G kd a i x = some r) : z_K G a = kd ∧ vp_in i (z_N G a) ∧ x = some r := by
  unfold z_gA at h
  by_cases c : z_K G a = kd ∧ 0 ≤ i ∧ i.toNatClampNeg < z_N G a
  · rw [if_pos c] at h
    refine ⟨c.1, fun e => ?_, h⟩
    rcases e with e | e
    · have := c.2.1
      rw [Int32.le_iff_toInt_le] at this
      rw [Int32.lt_iff_toInt_lt] at e
      omega
    · exact absurd c.2.2 (Nat.not_lt.mpr e)
  · rw [if_neg c] at h; cases h
theorem z_gB_of {α : Type} {v : Int32} {x : Option α} {r : α} (h : z_gB v x = some r) : (v = 0 ∨ v = 1) ∧ x = some r := by
  unfold z_gB at h
  by_cases c : v = 0 ∨ v = 1
  · rw [if_pos c] at h; exact ⟨c, h⟩
  · rw [if_neg c] at h; cases h
theorem z_gN_of {α : Type} {v : Int32} {x : Option α} {r : α} (h : z_gN v x = some r) : ¬ v = 0 ∧ x = some r := by
  unfold z_gN at h
  by_cases c : v = 0
  · rw [if_pos c] at h; cases h
  · rw [if_neg c] at h; exact ⟨c, h⟩
theorem z_nb {v : Int32} (h : v = 0 ∨ v = 1) : narrow .boolean (.int v) = .int v := by
  rcases h with rfl | rfl <;> rfl
theorem z_fb {v : Int32} (h : v = 0 ∨ v = 1) : fits .boolean (.int v) = true := by
  rcases h with rfl | rfl <;> rfl
theorem z_bind {α β : Type} {x : Option α} {f : α → Option β} {r : β} (h : x.bind f = some r) : ∃ a, x = some a ∧ f a = some r := Option.bind_eq_some_iff.mp h
theorem z_some {α : Type} {a b : α} (h : some a = some b) : a = b := Option.some.inj h
def z_let {α β : Type} (a : α) (f : α → β) : β := f a
theorem z_let_of {α β : Type} {a : α} {f : α → Option β} {r : β} (h : z_let a f = some r) : f a = some r := h
/-- a loop: f goes on with a new state, or leaves -/
def z_loop {α β : Type} (f : α → Option (α ⊕ β)) : Nat → α → Option β
  | 0, _ => none
  | n + 1, a => (f a).bind (Sum.elim (fun a' => z_loop f n a') (fun b => some b))
theorem z_loopV {α β : Type} {f : α → Option (α ⊕ β)} {P : α → Prop} {E : β → Prop} (hb : ∀ a ρ, f a = some ρ → Sum.elim P E ρ → P a) : ∀ (n : Nat) (a : α) (b : β), z_loop f n a = some b → E b → P a := by
  intro n
  induction n with
  | zero => intro a b h; cases h
  | succ n ih =>
    intro a b h hE
    obtain ⟨ρ, h1, h2⟩ := z_bind h
    refine hb a ρ h1 ?_
    rcases ρ with a' | b'
    · exact ih a' b h2 hE
    · cases h2; exact hE
section ZS
variable {q : z_Q} {X : z_X} {cc : ByteArray} {nL : Nat} {own nm : String} {ret : Option FieldType} {Q : State → Prop} {k n : Nat} {G : z_G} {D : z_D} {pc : Nat} {lv : List (Nat × Value)} {st : List Value}
theorem v_sub (ks : List Nat) {lv1 : List (Nat × Value)} (hl : lv_pick lv ks = lv1) (h : z_V q X nL Q k n G D pc lv1 st) : z_V q X nL Q k n G D pc lv st := fun H locs ls hR hl1 hv => h H locs ls hR hl1 (lv_sub hv ks hl)
theorem z_nz {H : Heap} (hb : 0 < z_b q) (hR : z_Rel q G D H) {a : Nat} (h : z_K G a ≠ 0) : a ≠ 0 := fun e => by
  have := hR.2.1.1 a (hR.mem h)
  omega
/-- a reference field is read, of which the kind is known -/
theorem z_getR (o : z_O q X cc nL own nm ret) (ci j key : Nat) {C : String} {T : u_T} {N : Nat} (hc : vwCl[ci]? = some (C, T, N)) (hin : ∀ w ∈ u_ws C T N, w ∈ lw_tbl) (hj : j < N) {a : Nat} (hK : z_K G a = 100 + ci) (hv : ((z_T ci).map (z_fv q G D a))[j]? = some (va_rf (z_o q (z_R G key a)))) {i : Nat} (hw : Cond.fieldLink own i (T j).1 (T j).2.1 (T j).2.2.1 ∈ lw_tbl) (hk : z_K G (z_R G key a) ≠ 0) (d : decode cc pc = .ok (.getfield i, 3)) (h : z_V q X nL Q k n G D (pc + 3) lv (.ref (z_w q (z_R G key a)) :: st)) : z_V q X nL Q k n G D pc lv (.ref (z_w q a) :: st) := by
  intro H locs ls hR
  have hz := z_nz o.st.2.2.2.2.1 hR hk
  have e : z_o q (z_R G key a) = some (z_w q (z_R G key a)) := by unfold z_o; rw [if_neg hz]
  rw [e] at hv
  exact z_get o ci j hc hin hj hK hv hw d h H locs ls hR
theorem v_aaldK (o : z_O q X cc nL own nm ret) {a : Nat} {i : Int32} (hK : z_K G a = 3) (hi : vp_in i (z_N G a)) (hz : z_K G (z_A G a i.toNatClampNeg) ≠ 0) (d : decode cc pc = .ok (.aaload, 1)) (h : z_V q X nL Q k n G D (pc + 1) lv (.ref (z_w q (z_A G a i.toNatClampNeg)) :: st)) : z_V q X nL Q k n G D pc lv (.int i :: .ref (z_w q a) :: st) := by
  intro H locs ls hR
  exact v_aald o hK hi (z_nz o.st.2.2.2.2.1 hR hz) d h H locs ls hR
theorem v_tabAt (o : z_O q X cc nL own nm ret) {df lo hi off : Int} {offs : Array Int} {len : Nat} {x : Int32} (c : Int32) (t : Nat) (d : decode cc pc = .ok (.tableswitch df lo hi offs, len)) (hx : x = c) (h1 : ¬ c.toInt < lo) (h2 : ¬ hi < c.toInt) (ho : offs[(c.toInt - lo).toNat]? = some off) (ht : (pc : Int) + off = (t : Int)) (h : z_V q X nL Q k n G D t lv st) : z_V q X nL Q k n G D pc lv (.int x :: st) := by
  subst hx
  exact v_tabIn o t d h1 h2 ho ht h
/-- the script -/
theorem v_sld (o : z_O q X cc nL own nm ret) {i : Int32} (hi : vp_in i (z_sL q)) (d : decode cc pc = .ok (.iaload, 1)) (h : z_V q X nL Q k n G D (pc + 1) lv (.int (z_sx q i.toNatClampNeg) :: st)) : z_V q X nL Q k n G D pc lv (.int i :: .ref (z_sb q) :: st) := by
  intro H locs ls hR hl hv
  obtain ⟨scr, h1, h2, h3, h4, h5⟩ := o.st.2.2.2.2.2.1
  have hlt : i.toNatClampNeg < z_sL q := Nat.not_le.mp fun e => hi (Or.inr e)
  exact W.iald (v := .int (z_sx q i.toNatClampNeg)) o.ex o.cd (by rw [hR.2.2.2.1 _ o.st.2.2.2.2.2.2.1]; exact h1) h2 h3 (by rw [h4]; exact hi) (h5 _ hlt) rfl rfl d (h H locs ls hR hl hv)
theorem v_slen (o : z_O q X cc nL own nm ret) (d : decode cc pc = .ok (.arraylength, 1)) (h : z_V q X nL Q k n G D (pc + 1) lv (.int (Int32.ofNat (z_sL q)) :: st)) : z_V q X nL Q k n G D pc lv (.ref (z_sb q) :: st) := by
  intro H locs ls hR hl hv
  obtain ⟨scr, h1, h2, h3, h4, h5⟩ := o.st.2.2.2.2.2.1
  exact W.alen (n := Int32.ofNat (z_sL q)) o.ex o.cd (by rw [hR.2.2.2.1 _ o.st.2.2.2.2.2.2.1]; exact h1) h2 (by rw [h4] <;> rfl) rfl rfl d (h H locs ls hR hl hv)
theorem z_i32 {x c : Int32} {m : Int} (h : x.toInt = m) (hc : c.toInt = m) : x = c := Int32.toInt_inj.mp (h.trans hc.symm)
end ZS
