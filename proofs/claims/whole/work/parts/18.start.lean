/-! the start -/
def z_G0 : z_G := ([], (fun _ => 0), (fun _ => 0), (fun _ _ => 0), (fun _ _ => 0), 1)
def z_D0 : z_D := ((fun _ _ => 0), (fun _ _ => 0), (fun _ _ => 0), (fun _ _ => 0))
/-- a static row of four ints, of the class called "[I" (that is the one thing which the Statement doesn't give) -/
theorem z_srow {args : Array Value} {s : State} {C n : String} {f : Nat → Int32} (harr : (Cond.arrayOf (.static C n "[I") .int).before args s = true) (hlen : (Cond.eq (.length (.static C n "[I")) (.int 4)).before args s = true) (h0 : (Cond.eq (.elem (.static C n "[I") (.int 0)) (.int (f 0))).before args s = true) (h1 : (Cond.eq (.elem (.static C n "[I") (.int 1)) (.int (f 1))).before args s = true) (h2 : (Cond.eq (.elem (.static C n "[I") (.int 2)) (.int (f 2))).before args s = true) (h3 : (Cond.eq (.elem (.static C n "[I") (.int 3)) (.int (f 3))).before args s = true)
    (hopen : ∀ (t : Nat) (cell : Cell), (Term.static C n "[I").eval args s none [] s = some (.ref t) → s.heap[t]? = some cell → s.vm.findClass "[I" = some cell.cls) : ∃ t : Nat, (Term.static C n "[I").eval args s none [] s = some (.ref t) ∧ z_sr s.heap.size t f s s.heap := by
  have hl := va_eqt hlen
  obtain ⟨t, cell, ht, hat, hv⟩ := Term.length_spec hl
  obtain ⟨hcell, hkn, -, -⟩ := State.arrayAt?_spec hat
  obtain ⟨hof, -⟩ := Cond.arrayOf_spec harr ht hcell
  have hs31 : cell.slots.size < 2 ^ 31 := by
    apply Classical.byContradiction
    intro hge
    simp only [Term.eval, Option.bind_eq_bind] at hl
    simp only [Term.eval, Option.bind_eq_bind] at ht
    simp [ht, hat, hge] at hl
  have hsz : cell.slots.size = 4 := by
    have e1 : cell.slots.size.toInt32 = 4 := (Value.int.inj hv).symm
    have e2 := congrArg Int32.toNatClampNeg e1
    rw [show cell.slots.size.toInt32 = Int32.ofNat cell.slots.size from rfl, Int32.toNatClampNeg_ofNat_of_lt hs31] at e2
    exact e2
  have key : ∀ (j : Nat) (z : Int32), j < 4 → z.toNatClampNeg = j → (Cond.eq (.elem (.static C n "[I") (.int z)) (.int (f j))).before args s = true → cell.slots[j]? = some (.int (f j)) := by
    intro j z hj hz hc
    obtain ⟨a, i, cell2, g1, g2, g3, g4, g5⟩ := Term.elem_spec (va_eqt hc)
    cases ht.symm.trans g1
    cases hat.symm.trans g3
    have e : (Term.int z).eval args s none [] s = some (.int z) := rfl
    cases g2.symm.trans e
    rw [hz] at g5
    exact g5
  refine ⟨t, ht, cell, hcell, hof.1, hkn, hopen t cell ht hcell, hsz, fun j hj => ?_, (Array.getElem?_eq_some_iff.mp hcell).1⟩
  match j, hj with
  | 0, _ => exact key 0 0 (by decide) (by decide) h0
  | 1, _ => exact key 1 1 (by decide) (by decide) h1
  | 2, _ => exact key 2 2 (by decide) (by decide) h2
  | 3, _ => exact key 3 3 (by decide) (by decide) h3
set_option maxHeartbeats 4000000 in
set_option maxRecDepth 100000 in
/-- the claim's walk, over the pure theorem and over the one fact that the Statement doesn't give -/
theorem z_whole_open {p : Program} {e : Env} {s : State} {m : MethodId} {below : List Frame} {meth : Method} {c : Code} (l : Launch) {b L : Nat} {xs : Nat → Int32} (hL : L ≤ 3073) (C0 : lw_At p s m meth c b L xs)
    (hpure : ∀ q : z_Q, z_sL q ≤ 3073 → ∃ G1 D1, f_L_law q z_G0 z_D0 (z_sb q) = some (G1, D1))
    (hopen : ∀ n ∈ ["FACTORY_KEYS", "FACTORY_THRESHOLDS"], ∀ (t : Nat) (cell : Cell), (Term.static "FlashTrust" n "[I").eval #[Value.ref b] s none [] s = some (.ref t) → s.heap[t]? = some cell → s.vm.findClass "[I" = some cell.cls) :
    W p l e room_1 s m #[Value.ref b] below meth c s.heap [] 0 0 (lw_Z below #[Value.ref b] s) (entryFrame m ([Value.ref b] : List Value).toArray 4) := by
  obtain ⟨hx, hb, hr, hml, hown, hts, hXs, hbl, hlocks, hgv⟩ := id C0
  have hs := flat_of_before _ hgv
  obtain ⟨c0, i0, kn0⟩ := u_known (C := RX0) (T := TX0) (N := 6) (n := 6) hts z_cw0 (hts _ (z_in2 6 rfl))
  obtain ⟨c1, i1, kn1⟩ := u_known (C := RX1) (T := TX1) (N := 6) (n := 6) hts z_cw1 (hts _ (z_in1 126 rfl))
  obtain ⟨c2, i2, kn2⟩ := u_known (C := RX2) (T := TX2) (N := 4) (n := 4) hts z_cw2 (hts _ (z_in2 202 rfl))
  obtain ⟨c3, i3, kn3⟩ := u_known (C := RX3) (T := TX3) (N := 14) (n := 14) hts z_cw3 (hts _ (z_in1 64 rfl))
  obtain ⟨c4, i4, kn4⟩ := u_known (C := RX4) (T := TX4) (N := 15) (n := 15) hts z_cw4 (hts _ (z_in1 175 rfl))
  obtain ⟨c5, i5, kn5⟩ := u_known (C := RX5) (T := TX5) (N := 2) (n := 2) hts z_cw5 (hts _ (z_in1 24 rfl))
  obtain ⟨c6, i6, kn6⟩ := u_known (C := RX6) (T := TX6) (N := 6) (n := 6) hts z_cw6 (hts _ (z_in1 169 rfl))
  obtain ⟨c7, i7, kn7⟩ := u_known (C := RX7) (T := TX7) (N := 3) (n := 3) hts z_cw7 (hts _ (z_in1 47 rfl))
  obtain ⟨c8, i8, kn8⟩ := u_known (C := RX8) (T := TX8) (N := 14) (n := 14) hts z_cw8 (hts _ (z_in2 63 rfl))
  obtain ⟨c9, i9, kn9⟩ := u_known (C := RX9) (T := TX9) (N := 10) (n := 10) hts z_cw9 (hts _ (z_in2 223 rfl))
  obtain ⟨c10, i10, kn10⟩ := u_known (C := RX10) (T := TX10) (N := 7) (n := 7) hts z_cw10 (hts _ (z_in1 16 rfl))
  obtain ⟨c11, i11, kn11⟩ := u_known (C := RX11) (T := TX11) (N := 75) (n := 75) hts z_cw11 (hts _ (z_in5 40 rfl))
  obtain ⟨cI, kI, pI, aI1, aI2, aI3⟩ := Cond.arrayClass_spec (hts _ ac_int)
  obtain ⟨cJ, kJ, pJ, aJ1, aJ2, aJ3⟩ := Cond.arrayClass_spec (hts _ ac_long)
  have hAO : va_AO "FlashTrust$Shelf" s := va_AO.of (hts _ (z_in1 41 rfl))
  obtain ⟨pS, cS, kS, aS0, -, aS2, aS3, aS1⟩ := Cond.arrayOver_spec (hts _ (z_in1 41 rfl))
  obtain ⟨t1, ht1, sr1⟩ := z_srow (C := "FlashTrust") (n := "FACTORY_KEYS") (f := z_k1) (hs _ (by decide +kernel)) (hs _ (by decide +kernel)) (hs _ (by decide +kernel)) (hs _ (by decide +kernel)) (hs _ (by decide +kernel)) (hs _ (by decide +kernel)) (hopen _ (by decide))
  obtain ⟨t2, ht2, sr2⟩ := z_srow (C := "FlashTrust") (n := "FACTORY_THRESHOLDS") (f := z_k2) (hs _ (by decide +kernel)) (hs _ (by decide +kernel)) (hs _ (by decide +kernel)) (hs _ (by decide +kernel)) (hs _ (by decide +kernel)) (hs _ (by decide +kernel)) (hopen _ (by decide))
  have hnA : ∀ a : Nat, a < s.heap.size → ¬ (fun a : Nat => s.heap.size ≤ a) a := fun a h => Nat.not_le.mpr h
  obtain ⟨DD, hK⟩ : ∃ DD : va_G, va_K DD vwCl [(cI, .int), (cJ, .long), (cS, .object "FlashTrust$Shelf")] s := by
    refine ⟨((fun k => match k with | 0 => c0 | 1 => c1 | 2 => c2 | 3 => c3 | 4 => c4 | 5 => c5 | 6 => c6 | 7 => c7 | 8 => c8 | 9 => c9 | 10 => c10 | _ => c11), (fun k => match k with | 0 => i0 | 1 => i1 | 2 => i2 | 3 => i3 | 4 => i4 | 5 => i5 | 6 => i6 | 7 => i7 | 8 => i8 | 9 => i9 | 10 => i10 | _ => i11)), ?_⟩
    refine ⟨fun k r hq => ?_, fun k r hq => ?_⟩
    · match k, hq with
      | 0, hq => cases hq; exact kn0
      | 1, hq => cases hq; exact kn1
      | 2, hq => cases hq; exact kn2
      | 3, hq => cases hq; exact kn3
      | 4, hq => cases hq; exact kn4
      | 5, hq => cases hq; exact kn5
      | 6, hq => cases hq; exact kn6
      | 7, hq => cases hq; exact kn7
      | 8, hq => cases hq; exact kn8
      | 9, hq => cases hq; exact kn9
      | 10, hq => cases hq; exact kn10
      | 11, hq => cases hq; exact kn11
      | k + 12, hq => simp [vwCl] at hq
    · match k, hq with
      | 0, hq => cases hq; exact ⟨fun n z => ⟨fun k h => (by cases h), kI, aI2, pI, aI3⟩, aI1⟩
      | 1, hq => cases hq; exact ⟨fun n z => ⟨fun k h => (by cases h), kJ, aJ2, pJ, aJ3⟩, aJ1⟩
      | 2, hq => cases hq; exact ⟨fun n z => ⟨fun k h => (by cases h), kS, aS2, pS, aS3⟩, kS, pS, aS2, aS3, aS0, aS1⟩
      | k + 3, hq => simp at hq
  have hSt : z_St (DD, (cI, cJ, cS), s.heap.size, s.heap, t1, t2, b, L, xs) s := by
    refine ⟨fun w hw => ?_, hAO, ⟨va_Zref (hts _ (z_in1 70 rfl)) (hts _ (z_in1 1 rfl)) ht1 hnA, sr1⟩, ⟨va_Zref (hts _ (z_in1 79 rfl)) (hts _ (z_in1 1 rfl)) ht2 hnA, sr2⟩, by show 0 < s.heap.size; omega, hXs, hbl, hL⟩
    refine va_Nw.of (z_nw_on w hw) (hts w ?_)
    revert w hw
    exact List.forall_mem_cons.mpr ⟨z_in1 48 rfl, List.forall_mem_cons.mpr ⟨z_in1 69 rfl, List.forall_mem_cons.mpr ⟨z_in1 76 rfl, List.forall_mem_cons.mpr ⟨z_in1 78 rfl, List.forall_mem_cons.mpr ⟨z_in1 176 rfl, List.forall_mem_cons.mpr ⟨z_in2 12 rfl, List.forall_mem_cons.mpr ⟨z_in2 41 rfl, List.forall_mem_cons.mpr ⟨z_in2 42 rfl, List.forall_mem_cons.mpr ⟨z_in2 229 rfl, (fun w h => absurd h List.not_mem_nil)⟩⟩⟩⟩⟩⟩⟩⟩⟩
  obtain ⟨G1, D1, hf⟩ := hpure (DD, (cI, cJ, cS), s.heap.size, s.heap, t1, t2, b, L, xs) hL
  rw [lg_entry_eq]
  refine b_L_law (q := (DD, (cI, cJ, cS), s.heap.size, s.heap, t1, t2, b, L, xs)) (X := (p, l, e, room_1, s, m, #[Value.ref b], below, meth, c)) rfl rfl ⟨hx, hb, hr, hml, hown, fun w hw => hts w (List.mem_filter.mp hw).1, hlocks, hK, hSt, rfl, Nat.le_refl _, fun _ _ => rfl⟩ rfl rfl hf s.heap [] _ ⟨fun k r h => by simp [va_pl, z_aL, z_L, z_G0] at h, ⟨fun a h => absurd h List.not_mem_nil, List.nodup_nil, fun a h => absurd rfl h⟩, ⟨by show 0 < s.heap.size; omega, Nat.le_refl _⟩, fun _ _ => rfl, by show s.heap.size = s.heap.size - 1 + 1; omega⟩ (fun l h => absurd h List.not_mem_nil) (lv_entry [.ref b] (Nat.le_of_ble_eq_true rfl))
