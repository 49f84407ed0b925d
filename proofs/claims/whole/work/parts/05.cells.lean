section ZF
variable {q : z_Q} {X : z_X} {cc : ByteArray} {nL : Nat} {own nm : String} {ret : Option FieldType} {Q : State → Prop} {k n : Nat} {G : z_G} {D : z_D} {pc : Nat} {lv : List (Nat × Value)} {st : List Value}
/-- a world with one cell changed -/
theorem z_Rel.upd {H H1 : Heap} {a : Nat} {G1 : z_G} {D1 : z_D} (hR : z_Rel q G D H) (hK : z_K G a ≠ 0) (hL : z_L G1 = z_L G) (hKe : z_K G1 = z_K G) (hZ : z_Z G1 = z_Z G) {e : va_E} (he : z_c q G1 D1 a = e) (hne : ∀ b, b ≠ a → z_c q G1 D1 b = z_c q G D b)
    (hP : va_P q.1 vwCl (va_pl (z_aL q G) (va_up (z_ce q G D) (z_w q a) e)) H1) (hz : H1.size = H.size) (ho : ∀ b, b < z_b q → H1[b]? = H[b]?) : z_Rel q G1 D1 H1 := by
  refine ⟨?_, ⟨fun b hb => hR.2.1.1 b (hL ▸ hb), hL ▸ hR.2.1.2.1, fun b hb => ?_⟩, ⟨hR.2.2.1.1, by rw [hz]; exact hR.2.2.1.2⟩, fun b hb => (ho b hb).trans (hR.2.2.2.1 b hb), by rw [hz, hZ]; exact hR.2.2.2.2⟩
  · have : va_pl (z_aL q G1) (z_ce q G1 D1) = va_pl (z_aL q G) (va_up (z_ce q G D) (z_w q a) e) := by
      unfold z_aL
      rw [hL]
      unfold va_pl
      rw [List.map_map, List.map_map]
      apply List.map_congr_left
      intro b _
      show (z_w q b, z_ce q G1 D1 (z_w q b)) = (z_w q b, va_up (z_ce q G D) (z_w q a) e (z_w q b))
      rw [z_ce_w]
      by_cases hb : b = a
      · subst hb
        rw [va_up_self, he]
      · rw [va_up_ne _ _ (fun h9 => hb (z_w_inj h9)), z_ce_w, hne b hb]
    rw [this]
    exact hP
  · rw [hL]
    rw [hKe] at hb
    exact hR.2.1.2.2 b hb
/-- a field is read -/
theorem z_get (o : z_O q X cc nL own nm ret) (ci j : Nat) {C : String} {T : u_T} {N : Nat} (hc : vwCl[ci]? = some (C, T, N)) (hin : ∀ w ∈ u_ws C T N, w ∈ lw_tbl) (hj : j < N) {a : Nat} (hK : z_K G a = 100 + ci) {v : Value} (hv : ((z_T ci).map (z_fv q G D a))[j]? = some v) {i : Nat} (hw : Cond.fieldLink own i (T j).1 (T j).2.1 (T j).2.2.1 ∈ lw_tbl) (d : decode cc pc = .ok (.getfield i, 3)) (h : z_V q X nL Q k n G D (pc + 3) lv (v :: st)) : z_V q X nL Q k n G D pc lv (.ref (z_w q a) :: st) := by
  intro H locs ls hR hl hv1
  obtain ⟨p0, hp⟩ := hR.get (show z_K G a ≠ 0 by omega)
  rw [z_c_ob hK] at hp
  have hin' : ∀ w ∈ u_ws C T N, w ∈ z_tb := fun w h => z_tb_in (hin w h) (by
    obtain ⟨b, -, rfl⟩ := List.mem_map.mp h
    unfold u_lay
    split <;> rfl)
  exact va_get o.ex o.cd o.ts hin' o.ow o.kn hR.1 p0 hp hc j hj (o.tw hw rfl) (fun _ h => h) hv d (h H locs ls hR hl hv1)
theorem z_keyset {G1 : z_G} {D1 : z_D} {a j : Nat} {l : List (Nat × Nat)} {p : Nat × Nat} {v : Value} (hu : (l.map Prod.snd).Nodup) (hp : l[j]? = some p) (hv : z_fv q G1 D1 a p = v) (ho : ∀ p', p'.2 ≠ p.2 → z_fv q G1 D1 a p' = z_fv q G D a p') : l.map (z_fv q G1 D1 a) = (l.map (z_fv q G D a)).set j v := by
  apply List.ext_getElem?
  intro i
  have hjl : j < l.length := (List.getElem?_eq_some_iff.mp hp).1
  by_cases hij : i = j
  · subst hij
    rw [List.getElem?_map, hp, List.getElem?_set_self (by rw [List.length_map]; exact hjl), Option.map_some, hv]
  · rw [List.getElem?_set_ne (Ne.symm hij), List.getElem?_map, List.getElem?_map]
    cases hq : l[i]? with
    | none => rfl
    | some p' =>
      rw [Option.map_some, Option.map_some, ho p']
      intro he
      obtain ⟨l1, e1⟩ := List.getElem?_eq_some_iff.mp hq
      obtain ⟨l2, e2⟩ := List.getElem?_eq_some_iff.mp hp
      have hpw := List.pairwise_iff_getElem.mp hu
      rcases Nat.lt_or_gt_of_ne hij with hlt | hlt
      · exact hpw i j (by rw [List.length_map]; exact l1) (by rw [List.length_map]; exact l2) hlt (by rw [List.getElem_map, List.getElem_map, e1, e2]; exact he)
      · exact hpw j i (by rw [List.length_map]; exact l2) (by rw [List.length_map]; exact l1) hlt (by rw [List.getElem_map, List.getElem_map, e1, e2]; exact he.symm)
/-- a field is written -/
theorem z_put (o : z_O q X cc nL own nm ret) (ci j : Nat) {C : String} {T : u_T} {N : Nat} (hc : vwCl[ci]? = some (C, T, N)) (hin : ∀ w ∈ u_ws C T N, w ∈ lw_tbl) (ty0 : Nat → FieldType) (hty : ∀ k, k < N → parseFieldDescriptor (T k).2.2.1 = some (ty0 k)) (hnm : ∀ a, a < N → ∀ b, b < N → a ≠ b → (T a).2.1 ≠ (T b).2.1) (hj : j < N) {a : Nat} (hK : z_K G a = 100 + ci) {v : Value} {p : Nat × Nat} (hp : (z_T ci)[j]? = some p) (hu : ((z_T ci).map Prod.snd).Nodup) (G1 : z_G) (D1 : z_D)
    (hL : z_L G1 = z_L G) (hKe : z_K G1 = z_K G) (hZ : z_Z G1 = z_Z G) (hv : z_fv q G1 D1 a p = v) (ho : ∀ p', p'.2 ≠ p.2 → z_fv q G1 D1 a p' = z_fv q G D a p') (hne : ∀ b, b ≠ a → z_c q G1 D1 b = z_c q G D b)
    {i : Nat} (hw : Cond.fieldLink own i (T j).1 (T j).2.1 (T j).2.2.1 ∈ lw_tbl) (hfin : (T j).2.2.2 = false ∨ ((T j).2.2.2 = true ∧ nm = "<init>" ∧ (T j).1 = own)) (hn : narrow (ty0 j) v = v) (hfit : fits (ty0 j) v = true)
    (d : decode cc pc = .ok (.putfield i, 3)) (h : z_V q X nL Q k n G1 D1 (pc + 3) lv st) : z_V q X nL Q k n G D pc lv (v :: .ref (z_w q a) :: st) := by
  intro H locs ls hR hl hv1
  have hK0 : z_K G a ≠ 0 := by omega
  obtain ⟨p0, hp0⟩ := hR.get hK0
  have hp1 := hp0
  rw [z_c_ob hK] at hp0
  have hin' : ∀ w ∈ u_ws C T N, w ∈ z_tb := fun w h => z_tb_in (hin w h) (by
    obtain ⟨b, -, rfl⟩ := List.mem_map.mp h
    unfold u_lay
    split <;> rfl)
  have hll : j < ((z_T ci).map (z_fv q G D a)).length := by rw [List.length_map]; exact (List.getElem?_eq_some_iff.mp hp).1
  have fin : ∀ (H1 : Heap) (locs1 : List Loc), va_P q.1 vwCl ((va_pl (z_aL q G) (z_ce q G D)).set p0 (z_w q a, .inr (ci, ((z_T ci).map (z_fv q G D a)).set j v))) H1 → H1.size = H.size → (∀ b, b ≠ z_w q a → H1[b]? = H[b]?) → (∀ l ∈ locs1, z_b q ≤ l.base) → z_W X H1 locs1 k n Q (F0 (x_m X) (pc + 3) ls st) := by
    intro H1 locs1 hP1 hz hob hl1
    rw [z_pl_set hR.D (hR.memA hK0) hp1, ← z_keyset hu hp hv ho] at hP1
    have hg : z_K G1 a = 100 + ci := by rw [hKe]; exact hK
    refine h H1 locs1 ls (hR.upd hK0 hL hKe hZ (z_c_ob hg) hne hP1 hz (fun b hb => hob b ?_)) hl1 hv1
    have := hR.in (hR.mem hK0)
    omega
  have hba : z_b q ≤ z_w q a := hR.in (hR.mem hK0)
  have hl2 : ∀ sl, ∀ l ∈ locs ++ [⟨z_w q a, sl⟩], z_b q ≤ l.base := fun sl l hlm => by
    rcases List.mem_append.mp hlm with h9 | h9
    · exact hl l h9
    · rw [List.mem_singleton.mp h9]
      exact hba
  have hap := va_apart (own := own) o.ts hin' ty0 hty hnm o.kn hc
  obtain ⟨r, e1, cell, q1, q2, q3, q4⟩ := hR.1 p0 _ hp0
  have hr : r = (C, T, N) := Option.some.inj (e1.symm.trans hc)
  subst hr
  obtain ⟨hS, hfc, kC, hkC, hkind⟩ := o.kn.1 ci _ hc
  obtain ⟨cf, kf, fi, f, hi, hsl⟩ := hS j hj
  have hlay := o.ts _ (hin' _ (u_in_lay hj))
  have hst := (u_facts hfc hkC (u_lays o.ts hin' hj) hi).1
  have done : ∀ H' : Heap, H'[z_w q a]? = some (cell.setSlot (q.1.2 ci j) v) → H'.size = H.size → (∀ b, b ≠ z_w q a → H'[b]? = H[b]?) → va_P q.1 vwCl ((va_pl (z_aL q G) (z_ce q G D)).set p0 (z_w q a, .inr (ci, ((z_T ci).map (z_fv q G D a)).set j v))) H' := fun H' f1 f2 f3 =>
    hR.1.set hR.D hp0 ⟨_, hc, t_OB.to (V := updV (vp_V ((z_T ci).map (z_fv q G D a))) j v) ⟨_, f1, q2, q3, t_set q4 hap hj v⟩ (fun i _ => vp_updV_set hll v i)⟩ f3
  unfold u_lay at hlay
  rcases hfin with hfin | ⟨hfin, hnm1, hdecl⟩
  · rw [if_neg (by rw [hfin]; decide)] at hlay
    refine W.putK o.ex o.cd (f := f) ⟨o.ow, o.tw hw rfl, ⟨_, _, _, hi⟩, hst⟩ (by rw [q2]; exact u_store hfc hkC hkind hlay hi (hty j hj) hn hfit) q1 q3 (by rw [hsl]; exact k2_hasslot (q4 j hj)) rfl rfl d fun H' f1 f2 f3 => ?_
    rw [hsl] at f1 ⊢
    exact fin H' _ (done H' f1 f2 f3) f2 f3 (hl2 _)
  · rw [if_pos hfin] at hlay
    have hcf : (x_m X).cls = cf := by
      obtain ⟨_, _, c', _, _, _, -, -, hf', -, -, -, hown2, -⟩ := Cond.laysFinal_spec hlay
      have e9 : c' = cf := by have := hi.symm.trans hf'; simp at this; exact this.1.symm
      rw [hdecl] at hown2
      rw [← e9]; exact Option.some.inj (o.ow.symm.trans hown2)
    refine W.putFinK o.ex o.cd o.ow (o.tw hw rfl) hi hst hcf (o.na.trans hnm1) (by rw [q2]; exact u_fits hfc hkC hkind (Or.inr hlay) hi (hty j hj) hn hfit) q1 q3 (by rw [hsl]; exact k2_hasslot (q4 j hj)) rfl rfl d fun H' f1 f2 f3 => ?_
    rw [hsl] at f1 ⊢
    exact fin H' _ (done H' f1 f2 f3) f2 f3 (hl2 _)
/-- int, long and reference fields -/
theorem z_cne {a b : Nat} {k : Nat} {G1 : z_G} {D1 : z_D} (hKe : z_K G1 = z_K G) (hN : z_N G1 = z_N G) (hA : z_A G1 = z_A G) (hU : z_U D1 = z_U D) (hY : z_Y D1 = z_Y D) (hI : ∀ k, z_I D1 k b = z_I D k b) (hJ : ∀ k, z_J D1 k b = z_J D k b) (hRf : ∀ k, z_R G1 k b = z_R G k b) : z_c q G1 D1 b = z_c q G D b := by
  have hf : z_fv q G1 D1 b = z_fv q G D b := by
    funext p
    unfold z_fv
    rw [hI, hJ, hRf]
  unfold z_c
  rw [hKe, hN, hA, hU, hY, hf]
theorem z_putI (o : z_O q X cc nL own nm ret) (ci j : Nat) {C : String} {T : u_T} {N : Nat} (hc : vwCl[ci]? = some (C, T, N)) (hin : ∀ w ∈ u_ws C T N, w ∈ lw_tbl) (ty0 : Nat → FieldType) (hty : ∀ k, k < N → parseFieldDescriptor (T k).2.2.1 = some (ty0 k)) (hnm : ∀ a, a < N → ∀ b, b < N → a ≠ b → (T a).2.1 ≠ (T b).2.1) (hj : j < N) {key : Nat} (hp : (z_T ci)[j]? = some (0, key)) (hu : ((z_T ci).map Prod.snd).Nodup) {a : Nat} (hK : z_K G a = 100 + ci) {v : Int32}
    {i : Nat} (hw : Cond.fieldLink own i (T j).1 (T j).2.1 (T j).2.2.1 ∈ lw_tbl) (hfin : (T j).2.2.2 = false ∨ ((T j).2.2.2 = true ∧ nm = "<init>" ∧ (T j).1 = own)) (hn : narrow (ty0 j) (.int v) = .int v) (hfit : fits (ty0 j) (.int v) = true)
    (d : decode cc pc = .ok (.putfield i, 3)) (h : z_V q X nL Q k n G (z_sI D key a v) (pc + 3) lv st) : z_V q X nL Q k n G D pc lv (.int v :: .ref (z_w q a) :: st) := by
  refine z_put o ci j hc hin ty0 hty hnm hj hK hp hu G (z_sI D key a v) rfl rfl rfl (by simp [z_fv, z_I_sI]) (fun p' hne => ?_) (fun b hb => ?_) hw hfin hn hfit d h
  · have : ∀ z, ¬ (p'.2 = key ∧ z) := fun z h9 => hne h9.1
    unfold z_fv
    rw [z_I_sI, if_neg (this _), z_J_sI]
  · exact z_cne (a := a) (k := key) rfl rfl rfl rfl rfl (fun k => by rw [z_I_sI, if_neg (fun h9 => hb h9.2)]) (fun _ => rfl) (fun _ => rfl)
theorem z_putJ (o : z_O q X cc nL own nm ret) (ci j : Nat) {C : String} {T : u_T} {N : Nat} (hc : vwCl[ci]? = some (C, T, N)) (hin : ∀ w ∈ u_ws C T N, w ∈ lw_tbl) (ty0 : Nat → FieldType) (hty : ∀ k, k < N → parseFieldDescriptor (T k).2.2.1 = some (ty0 k)) (hnm : ∀ a, a < N → ∀ b, b < N → a ≠ b → (T a).2.1 ≠ (T b).2.1) (hj : j < N) {key : Nat} (hp : (z_T ci)[j]? = some (1, key)) (hu : ((z_T ci).map Prod.snd).Nodup) {a : Nat} (hK : z_K G a = 100 + ci) {v : Int64}
    {i : Nat} (hw : Cond.fieldLink own i (T j).1 (T j).2.1 (T j).2.2.1 ∈ lw_tbl) (hfin : (T j).2.2.2 = false ∨ ((T j).2.2.2 = true ∧ nm = "<init>" ∧ (T j).1 = own)) (hn : narrow (ty0 j) (.long v) = .long v) (hfit : fits (ty0 j) (.long v) = true)
    (d : decode cc pc = .ok (.putfield i, 3)) (h : z_V q X nL Q k n G (z_sJ D key a v) (pc + 3) lv st) : z_V q X nL Q k n G D pc lv (.long v :: .ref (z_w q a) :: st) := by
  refine z_put o ci j hc hin ty0 hty hnm hj hK hp hu G (z_sJ D key a v) rfl rfl rfl (by simp [z_fv, z_J_sJ]) (fun p' hne => ?_) (fun b hb => ?_) hw hfin hn hfit d h
  · have : ∀ z, ¬ (p'.2 = key ∧ z) := fun z h9 => hne h9.1
    unfold z_fv
    rw [z_J_sJ, if_neg (this _), z_I_sJ]
  · exact z_cne (a := a) (k := key) rfl rfl rfl rfl rfl (fun _ => rfl) (fun k => by rw [z_J_sJ, if_neg (fun h9 => hb h9.2)]) (fun _ => rfl)
theorem z_R_sR (G : z_G) (k a v : Nat) (k' a' : Nat) : z_R (z_sR G k a v) k' a' = if k' = k ∧ a' = a then v else z_R G k' a' := rfl
theorem z_putR (o : z_O q X cc nL own nm ret) (ci j : Nat) {C : String} {T : u_T} {N : Nat} (hc : vwCl[ci]? = some (C, T, N)) (hin : ∀ w ∈ u_ws C T N, w ∈ lw_tbl) (ty0 : Nat → FieldType) (hty : ∀ k, k < N → parseFieldDescriptor (T k).2.2.1 = some (ty0 k)) (hnm : ∀ a, a < N → ∀ b, b < N → a ≠ b → (T a).2.1 ≠ (T b).2.1) (hj : j < N) {key : Nat} (hp : (z_T ci)[j]? = some (2, key)) (hu : ((z_T ci).map Prod.snd).Nodup) {a : Nat} (hK : z_K G a = 100 + ci) {v : Nat} (hv0 : v ≠ 0)
    {i : Nat} (hw : Cond.fieldLink own i (T j).1 (T j).2.1 (T j).2.2.1 ∈ lw_tbl) (hfin : (T j).2.2.2 = false ∨ ((T j).2.2.2 = true ∧ nm = "<init>" ∧ (T j).1 = own)) (hn : narrow (ty0 j) (.ref (z_w q v)) = .ref (z_w q v)) (hfit : fits (ty0 j) (.ref (z_w q v)) = true)
    (d : decode cc pc = .ok (.putfield i, 3)) (h : z_V q X nL Q k n (z_sR G key a v) D (pc + 3) lv st) : z_V q X nL Q k n G D pc lv (.ref (z_w q v) :: .ref (z_w q a) :: st) := by
  refine z_put o ci j hc hin ty0 hty hnm hj hK hp hu (z_sR G key a v) D rfl rfl rfl (by simp [z_fv, z_R_sR, z_o, hv0, va_rf]) (fun p' hne => ?_) (fun b hb => ?_) hw hfin hn hfit d h
  · have : ∀ z, ¬ (p'.2 = key ∧ z) := fun z h9 => hne h9.1
    unfold z_fv
    rw [z_R_sR, if_neg (this _)]
  · exact z_cne (a := a) (k := key) rfl rfl rfl rfl rfl (fun _ => rfl) (fun _ => rfl) (fun k => by rw [z_R_sR, if_neg (fun h9 => hb h9.2)])
end ZF
