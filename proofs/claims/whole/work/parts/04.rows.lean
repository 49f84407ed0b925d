section ZR
variable {q : z_Q} {X : z_X} {cc : ByteArray} {nL : Nat} {own nm : String} {ret : Option FieldType} {Q : State → Prop} {k n : Nat} {G : z_G} {D : z_D} {pc : Nat} {lv : List (Nat × Value)} {st : List Value}
theorem v_iadd (o : z_O q X cc nL own nm ret) {x y : Int32} (d : decode cc pc = .ok (.iadd, 1)) (h : z_V q X nL Q k n G D (pc + 1) lv (.int (x + y) :: st)) : z_V q X nL Q k n G D pc lv (.int y :: .int x :: st) :=
  fun H locs ls hR hl hv => lv_iadd o.ex o.cd d (h H locs ls hR hl hv)
theorem v_isub (o : z_O q X cc nL own nm ret) {x y : Int32} (d : decode cc pc = .ok (.isub, 1)) (h : z_V q X nL Q k n G D (pc + 1) lv (.int (x - y) :: st)) : z_V q X nL Q k n G D pc lv (.int y :: .int x :: st) :=
  fun H locs ls hR hl hv => lv_isub o.ex o.cd d (h H locs ls hR hl hv)
theorem v_imul (o : z_O q X cc nL own nm ret) {x y : Int32} (d : decode cc pc = .ok (.imul, 1)) (h : z_V q X nL Q k n G D (pc + 1) lv (.int (x * y) :: st)) : z_V q X nL Q k n G D pc lv (.int y :: .int x :: st) :=
  fun H locs ls hR hl hv => lv_imul o.ex o.cd d (h H locs ls hR hl hv)
theorem v_iand (o : z_O q X cc nL own nm ret) {x y : Int32} (d : decode cc pc = .ok (.iand, 1)) (h : z_V q X nL Q k n G D (pc + 1) lv (.int (x &&& y) :: st)) : z_V q X nL Q k n G D pc lv (.int y :: .int x :: st) :=
  fun H locs ls hR hl hv => lv_iand o.ex o.cd d (h H locs ls hR hl hv)
theorem v_ior (o : z_O q X cc nL own nm ret) {x y : Int32} (d : decode cc pc = .ok (.ior, 1)) (h : z_V q X nL Q k n G D (pc + 1) lv (.int (x ||| y) :: st)) : z_V q X nL Q k n G D pc lv (.int y :: .int x :: st) :=
  fun H locs ls hR hl hv => lv_ior o.ex o.cd d (h H locs ls hR hl hv)
theorem v_ixor (o : z_O q X cc nL own nm ret) {x y : Int32} (d : decode cc pc = .ok (.ixor, 1)) (h : z_V q X nL Q k n G D (pc + 1) lv (.int (x ^^^ y) :: st)) : z_V q X nL Q k n G D pc lv (.int y :: .int x :: st) :=
  fun H locs ls hR hl hv => lv_ixor o.ex o.cd d (h H locs ls hR hl hv)
theorem v_ladd (o : z_O q X cc nL own nm ret) {x y : Int64} (d : decode cc pc = .ok (.ladd, 1)) (h : z_V q X nL Q k n G D (pc + 1) lv (.long (x + y) :: st)) : z_V q X nL Q k n G D pc lv (.long y :: .long x :: st) :=
  fun H locs ls hR hl hv => lv_ladd o.ex o.cd d (h H locs ls hR hl hv)
theorem v_lsub (o : z_O q X cc nL own nm ret) {x y : Int64} (d : decode cc pc = .ok (.lsub, 1)) (h : z_V q X nL Q k n G D (pc + 1) lv (.long (x - y) :: st)) : z_V q X nL Q k n G D pc lv (.long y :: .long x :: st) :=
  fun H locs ls hR hl hv => lv_lsub o.ex o.cd d (h H locs ls hR hl hv)
theorem v_lmul (o : z_O q X cc nL own nm ret) {x y : Int64} (d : decode cc pc = .ok (.lmul, 1)) (h : z_V q X nL Q k n G D (pc + 1) lv (.long (x * y) :: st)) : z_V q X nL Q k n G D pc lv (.long y :: .long x :: st) :=
  fun H locs ls hR hl hv => lv_lmul o.ex o.cd d (h H locs ls hR hl hv)
theorem v_land (o : z_O q X cc nL own nm ret) {x y : Int64} (d : decode cc pc = .ok (.land, 1)) (h : z_V q X nL Q k n G D (pc + 1) lv (.long (x &&& y) :: st)) : z_V q X nL Q k n G D pc lv (.long y :: .long x :: st) :=
  fun H locs ls hR hl hv => lv_land o.ex o.cd d (h H locs ls hR hl hv)
theorem v_lor (o : z_O q X cc nL own nm ret) {x y : Int64} (d : decode cc pc = .ok (.lor, 1)) (h : z_V q X nL Q k n G D (pc + 1) lv (.long (x ||| y) :: st)) : z_V q X nL Q k n G D pc lv (.long y :: .long x :: st) :=
  fun H locs ls hR hl hv => lv_lor o.ex o.cd d (h H locs ls hR hl hv)
theorem v_lxor (o : z_O q X cc nL own nm ret) {x y : Int64} (d : decode cc pc = .ok (.lxor, 1)) (h : z_V q X nL Q k n G D (pc + 1) lv (.long (x ^^^ y) :: st)) : z_V q X nL Q k n G D pc lv (.long y :: .long x :: st) :=
  fun H locs ls hR hl hv => lv_lxor o.ex o.cd d (h H locs ls hR hl hv)
theorem v_idiv (o : z_O q X cc nL own nm ret) {x y : Int32} (d : decode cc pc = .ok (.idiv, 1)) (hy : ¬ y = 0) (h : z_V q X nL Q k n G D (pc + 1) lv (.int (x / y) :: st)) : z_V q X nL Q k n G D pc lv (.int y :: .int x :: st) :=
  fun H locs ls hR hl hv => lv_idiv o.ex o.cd d hy (h H locs ls hR hl hv)
theorem v_irem (o : z_O q X cc nL own nm ret) {x y : Int32} (d : decode cc pc = .ok (.irem, 1)) (hy : ¬ y = 0) (h : z_V q X nL Q k n G D (pc + 1) lv (.int (x - x / y * y) :: st)) : z_V q X nL Q k n G D pc lv (.int y :: .int x :: st) :=
  fun H locs ls hR hl hv => lv_irem o.ex o.cd d hy (h H locs ls hR hl hv)
theorem v_ineg (o : z_O q X cc nL own nm ret) {x : Int32} (d : decode cc pc = .ok (.ineg, 1)) (h : z_V q X nL Q k n G D (pc + 1) lv (.int (-x) :: st)) : z_V q X nL Q k n G D pc lv (.int x :: st) :=
  fun H locs ls hR hl hv => lv_ineg o.ex o.cd d (h H locs ls hR hl hv)
theorem v_ishl (o : z_O q X cc nL own nm ret) {x y : Int32} (d : decode cc pc = .ok (.ishl, 1)) (h : z_V q X nL Q k n G D (pc + 1) lv (.int (x <<< (y &&& 31)) :: st)) : z_V q X nL Q k n G D pc lv (.int y :: .int x :: st) :=
  fun H locs ls hR hl hv => lv_ishl o.ex o.cd d (h H locs ls hR hl hv)
theorem v_ishr (o : z_O q X cc nL own nm ret) {x y : Int32} (d : decode cc pc = .ok (.ishr, 1)) (h : z_V q X nL Q k n G D (pc + 1) lv (.int (x >>> (y &&& 31)) :: st)) : z_V q X nL Q k n G D pc lv (.int y :: .int x :: st) :=
  fun H locs ls hR hl hv => lv_ishr o.ex o.cd d (h H locs ls hR hl hv)
theorem v_iushr (o : z_O q X cc nL own nm ret) {x y : Int32} (d : decode cc pc = .ok (.iushr, 1)) (h : z_V q X nL Q k n G D (pc + 1) lv (.int ((x.toUInt32 >>> (y.toUInt32 &&& Int32.toUInt32 31)).toInt32) :: st)) : z_V q X nL Q k n G D pc lv (.int y :: .int x :: st) :=
  fun H locs ls hR hl hv => lv_iushr o.ex o.cd d rfl (h H locs ls hR hl hv)
theorem v_lushr (o : z_O q X cc nL own nm ret) {x : Int64} {y : Int32} (d : decode cc pc = .ok (.lushr, 1)) (h : z_V q X nL Q k n G D (pc + 1) lv (.long ((x.toUInt64 >>> (y.toInt64.toUInt64 &&& Int64.toUInt64 63)).toInt64) :: st)) : z_V q X nL Q k n G D pc lv (.int y :: .long x :: st) :=
  fun H locs ls hR hl hv => lv_lushr o.ex o.cd d rfl (h H locs ls hR hl hv)
theorem v_lshl (o : z_O q X cc nL own nm ret) {x : Int64} {y : Int32} (d : decode cc pc = .ok (.lshl, 1)) (h : z_V q X nL Q k n G D (pc + 1) lv (.long (x <<< (y.toInt64 &&& 63)) :: st)) : z_V q X nL Q k n G D pc lv (.int y :: .long x :: st) :=
  fun H locs ls hR hl hv => lv_lshl o.ex o.cd d rfl (h H locs ls hR hl hv)
theorem v_lshr (o : z_O q X cc nL own nm ret) {x : Int64} {y : Int32} (d : decode cc pc = .ok (.lshr, 1)) (h : z_V q X nL Q k n G D (pc + 1) lv (.long (x >>> (y.toInt64 &&& 63)) :: st)) : z_V q X nL Q k n G D pc lv (.int y :: .long x :: st) :=
  fun H locs ls hR hl hv => lv_lshr o.ex o.cd d rfl (h H locs ls hR hl hv)
theorem v_i2l (o : z_O q X cc nL own nm ret) {x : Int32} (d : decode cc pc = .ok (.i2l, 1)) (h : z_V q X nL Q k n G D (pc + 1) lv (.long x.toInt64 :: st)) : z_V q X nL Q k n G D pc lv (.int x :: st) :=
  fun H locs ls hR hl hv => lv_i2l o.ex o.cd d rfl (h H locs ls hR hl hv)
theorem v_l2i (o : z_O q X cc nL own nm ret) {x : Int64} (d : decode cc pc = .ok (.l2i, 1)) (h : z_V q X nL Q k n G D (pc + 1) lv (.int x.toInt32 :: st)) : z_V q X nL Q k n G D pc lv (.long x :: st) :=
  fun H locs ls hR hl hv => lv_l2i o.ex o.cd d rfl (h H locs ls hR hl hv)
theorem v_lcmp (o : z_O q X cc nL own nm ret) {x y : Int64} (d : decode cc pc = .ok (.lcmp, 1)) (h : z_V q X nL Q k n G D (pc + 1) lv (.int (lg_cmp x y) :: st)) : z_V q X nL Q k n G D pc lv (.long y :: .long x :: st) :=
  fun H locs ls hR hl hv => W.lcmp o.ex o.cd d (h H locs ls hR hl hv)
theorem v_iconst (o : z_O q X cc nL own nm ret) {i : Int} (v : Int32) (d : decode cc pc = .ok (.iconst i, 1)) (hv0 : Int32.ofInt i = v) (h : z_V q X nL Q k n G D (pc + 1) lv (.int v :: st)) : z_V q X nL Q k n G D pc lv (st) :=
  fun H locs ls hR hl hv => lv_iconst o.ex o.cd d hv0 (h H locs ls hR hl hv)
theorem v_bipush (o : z_O q X cc nL own nm ret) {i : Int} (v : Int32) (d : decode cc pc = .ok (.bipush i, 2)) (hv0 : (Int8.ofInt i).toInt32 = v) (h : z_V q X nL Q k n G D (pc + 2) lv (.int v :: st)) : z_V q X nL Q k n G D pc lv (st) :=
  fun H locs ls hR hl hv => lv_bipush o.ex o.cd d hv0 (h H locs ls hR hl hv)
theorem v_sipush (o : z_O q X cc nL own nm ret) {i : Int} (v : Int32) (d : decode cc pc = .ok (.sipush i, 3)) (hv0 : (Int16.ofInt i).toInt32 = v) (h : z_V q X nL Q k n G D (pc + 3) lv (.int v :: st)) : z_V q X nL Q k n G D pc lv (st) :=
  fun H locs ls hR hl hv => lv_sipush o.ex o.cd d hv0 (h H locs ls hR hl hv)
theorem v_lconst (o : z_O q X cc nL own nm ret) {i : Fin 2} (v : Int64) (d : decode cc pc = .ok (.lconst i, 1)) (hv0 : Int64.ofNat (i : Nat) = v) (h : z_V q X nL Q k n G D (pc + 1) lv (.long v :: st)) : z_V q X nL Q k n G D pc lv (st) :=
  fun H locs ls hR hl hv => lv_lconst o.ex o.cd d hv0 (h H locs ls hR hl hv)
theorem v_dup (o : z_O q X cc nL own nm ret) {a : Value} (d : decode cc pc = .ok (.dup, 1)) (hc : a.category = 1) (h : z_V q X nL Q k n G D (pc + 1) lv (a :: a :: st)) : z_V q X nL Q k n G D pc lv (a :: st) :=
  fun H locs ls hR hl hv => lv_dup o.ex o.cd d hc (h H locs ls hR hl hv)
theorem v_dup2 (o : z_O q X cc nL own nm ret) {a b : Value} (d : decode cc pc = .ok (.dup2, 1)) (hc : a.category = 1) (hc2 : b.category = 1) (h : z_V q X nL Q k n G D (pc + 1) lv (a :: b :: a :: b :: st)) : z_V q X nL Q k n G D pc lv (a :: b :: st) :=
  fun H locs ls hR hl hv => lv_dup2_11 o.ex o.cd d hc hc2 (h H locs ls hR hl hv)
theorem v_pop (o : z_O q X cc nL own nm ret) {a : Value} (d : decode cc pc = .ok (.pop, 1)) (hc : a.category = 1) (h : z_V q X nL Q k n G D (pc + 1) lv (st)) : z_V q X nL Q k n G D pc lv (a :: st) :=
  fun H locs ls hR hl hv => lv_pop o.ex o.cd d hc (h H locs ls hR hl hv)
theorem v_iload_n (o : z_O q X cc nL own nm ret) {j : Fin 4} {i : Nat} {x : Int32} (d : decode cc pc = .ok (.iload_n j, 1)) (hi : (j : Nat) = i) (p : Nat) (hp : lv[p]? = some (i, .int x)) (h : z_V q X nL Q k n G D (pc + 1) lv (.int x :: st)) : z_V q X nL Q k n G D pc lv st :=
  fun H locs ls hR hl hv => lv_iload_n o.ex o.cd d hi (lv_at hv p hp) (h H locs ls hR hl hv)
theorem v_iload (o : z_O q X cc nL own nm ret) {i : Nat} {x : Int32} (d : decode cc pc = .ok (.iload i, 2)) (p : Nat) (hp : lv[p]? = some (i, .int x)) (h : z_V q X nL Q k n G D (pc + 2) lv (.int x :: st)) : z_V q X nL Q k n G D pc lv st :=
  fun H locs ls hR hl hv => lv_iload o.ex o.cd d (lv_at hv p hp) (h H locs ls hR hl hv)
theorem v_istore_n (o : z_O q X cc nL own nm ret) {j : Fin 4} {i : Nat} {x : Int32} (lv1 : List (Nat × Value)) (d : decode cc pc = .ok (.istore_n j, 1)) (hi : (j : Nat) = i) (hn : i < nL) (hl1 : (i, Value.int x) :: lv.filter (fun q => !(q.1 == i) && !(q.1 + 1 == i && q.2.category == 2)) = lv1) (h : z_V q X nL Q k n G D (pc + 1) lv1 st) : z_V q X nL Q k n G D pc lv (.int x :: st) :=
  fun H locs ls hR hl hv => lv_istore_n o.ex o.cd d hi hv hn hl1 (fun ls1 hv1 => h H locs ls1 hR hl hv1)
theorem v_istore (o : z_O q X cc nL own nm ret) {i : Nat} {x : Int32} (lv1 : List (Nat × Value)) (d : decode cc pc = .ok (.istore i, 2)) (hn : i < nL) (hl1 : (i, Value.int x) :: lv.filter (fun q => !(q.1 == i) && !(q.1 + 1 == i && q.2.category == 2)) = lv1) (h : z_V q X nL Q k n G D (pc + 2) lv1 st) : z_V q X nL Q k n G D pc lv (.int x :: st) :=
  fun H locs ls hR hl hv => lv_istore o.ex o.cd d hv hn hl1 (fun ls1 hv1 => h H locs ls1 hR hl hv1)
theorem v_lload_n (o : z_O q X cc nL own nm ret) {j : Fin 4} {i : Nat} {x : Int64} (d : decode cc pc = .ok (.lload_n j, 1)) (hi : (j : Nat) = i) (p : Nat) (hp : lv[p]? = some (i, .long x)) (h : z_V q X nL Q k n G D (pc + 1) lv (.long x :: st)) : z_V q X nL Q k n G D pc lv st :=
  fun H locs ls hR hl hv => lv_lload_n o.ex o.cd d hi (lv_at hv p hp) (h H locs ls hR hl hv)
theorem v_lload (o : z_O q X cc nL own nm ret) {i : Nat} {x : Int64} (d : decode cc pc = .ok (.lload i, 2)) (p : Nat) (hp : lv[p]? = some (i, .long x)) (h : z_V q X nL Q k n G D (pc + 2) lv (.long x :: st)) : z_V q X nL Q k n G D pc lv st :=
  fun H locs ls hR hl hv => lv_lload o.ex o.cd d (lv_at hv p hp) (h H locs ls hR hl hv)
theorem v_lstore_n (o : z_O q X cc nL own nm ret) {j : Fin 4} {i : Nat} {x : Int64} (lv1 : List (Nat × Value)) (d : decode cc pc = .ok (.lstore_n j, 1)) (hi : (j : Nat) = i) (hn : i + 1 < nL) (hl1 : (i, Value.long x) :: lv.filter (fun q => !(q.1 == i) && (!(q.1 == i + 1) && !(q.1 + 1 == i && q.2.category == 2))) = lv1) (h : z_V q X nL Q k n G D (pc + 1) lv1 st) : z_V q X nL Q k n G D pc lv (.long x :: st) :=
  fun H locs ls hR hl hv => lv_lstore_n o.ex o.cd d hi hv hn hl1 (fun ls1 hv1 => h H locs ls1 hR hl hv1)
theorem v_lstore (o : z_O q X cc nL own nm ret) {i : Nat} {x : Int64} (lv1 : List (Nat × Value)) (d : decode cc pc = .ok (.lstore i, 2)) (hn : i + 1 < nL) (hl1 : (i, Value.long x) :: lv.filter (fun q => !(q.1 == i) && (!(q.1 == i + 1) && !(q.1 + 1 == i && q.2.category == 2))) = lv1) (h : z_V q X nL Q k n G D (pc + 2) lv1 st) : z_V q X nL Q k n G D pc lv (.long x :: st) :=
  fun H locs ls hR hl hv => lv_lstore o.ex o.cd d hv hn hl1 (fun ls1 hv1 => h H locs ls1 hR hl hv1)
theorem v_aload_n (o : z_O q X cc nL own nm ret) {j : Fin 4} {i : Nat} {x : Nat} (d : decode cc pc = .ok (.aload_n j, 1)) (hi : (j : Nat) = i) (p : Nat) (hp : lv[p]? = some (i, .ref x)) (h : z_V q X nL Q k n G D (pc + 1) lv (.ref x :: st)) : z_V q X nL Q k n G D pc lv st :=
  fun H locs ls hR hl hv => lv_aload_n o.ex o.cd d hi (lv_at hv p hp) (h H locs ls hR hl hv)
theorem v_aload (o : z_O q X cc nL own nm ret) {i : Nat} {x : Nat} (d : decode cc pc = .ok (.aload i, 2)) (p : Nat) (hp : lv[p]? = some (i, .ref x)) (h : z_V q X nL Q k n G D (pc + 2) lv (.ref x :: st)) : z_V q X nL Q k n G D pc lv st :=
  fun H locs ls hR hl hv => lv_aload o.ex o.cd d (lv_at hv p hp) (h H locs ls hR hl hv)
theorem v_astore_n (o : z_O q X cc nL own nm ret) {j : Fin 4} {i : Nat} {x : Nat} (lv1 : List (Nat × Value)) (d : decode cc pc = .ok (.astore_n j, 1)) (hi : (j : Nat) = i) (hn : i < nL) (hl1 : (i, Value.ref x) :: lv.filter (fun q => !(q.1 == i) && !(q.1 + 1 == i && q.2.category == 2)) = lv1) (h : z_V q X nL Q k n G D (pc + 1) lv1 st) : z_V q X nL Q k n G D pc lv (.ref x :: st) :=
  fun H locs ls hR hl hv => lv_astore_n o.ex o.cd d hi hv hn hl1 (fun ls1 hv1 => h H locs ls1 hR hl hv1)
theorem v_astore (o : z_O q X cc nL own nm ret) {i : Nat} {x : Nat} (lv1 : List (Nat × Value)) (d : decode cc pc = .ok (.astore i, 2)) (hn : i < nL) (hl1 : (i, Value.ref x) :: lv.filter (fun q => !(q.1 == i) && !(q.1 + 1 == i && q.2.category == 2)) = lv1) (h : z_V q X nL Q k n G D (pc + 2) lv1 st) : z_V q X nL Q k n G D pc lv (.ref x :: st) :=
  fun H locs ls hR hl hv => lv_astore o.ex o.cd d hv hn hl1 (fun ls1 hv1 => h H locs ls1 hR hl hv1)
theorem v_iinc (o : z_O q X cc nL own nm ret) {i : Nat} {j : Int} {x : Int32} (v : Int32) (lv1 : List (Nat × Value)) (d : decode cc pc = .ok (.iinc i j, 3)) (p : Nat) (hp : lv[p]? = some (i, .int x)) (hx : x + Int32.ofInt j = v) (hn : i < nL) (hl1 : (i, Value.int v) :: lv.filter (fun q => !(q.1 == i) && !(q.1 + 1 == i && q.2.category == 2)) = lv1) (h : z_V q X nL Q k n G D (pc + 3) lv1 st) : z_V q X nL Q k n G D pc lv st :=
  fun H locs ls hR hl hv => lv_iinc o.ex o.cd d hv hp hx hn hl1 (fun ls1 hv1 => h H locs ls1 hR hl hv1)
theorem v_if_eq (o : z_O q X cc nL own nm ret) {x : Int32} {off : Int} (t : Nat) (d : decode cc pc = .ok (.ifCond .eq off, 3)) (ht : (pc : Int) + off = (t : Int)) (h1 : x = 0 → z_V q X nL Q k n G D t lv st) (h2 : ¬ (x = 0) → z_V q X nL Q k n G D (pc + 3) lv st) : z_V q X nL Q k n G D pc lv (.int x :: st) :=
  fun H locs ls hR hl hv => lv_if_eq o.ex o.cd d ht (fun e => h1 e H locs ls hR hl hv) (fun e => h2 e H locs ls hR hl hv)
theorem v_icmp_eq (o : z_O q X cc nL own nm ret) {x y : Int32} {off : Int} (t : Nat) (d : decode cc pc = .ok (.if_icmp .eq off, 3)) (ht : (pc : Int) + off = (t : Int)) (h1 : x = y → z_V q X nL Q k n G D t lv st) (h2 : ¬ (x = y) → z_V q X nL Q k n G D (pc + 3) lv st) : z_V q X nL Q k n G D pc lv (.int y :: .int x :: st) :=
  fun H locs ls hR hl hv => lv_icmp_eq o.ex o.cd d ht (fun e => h1 e H locs ls hR hl hv) (fun e => h2 e H locs ls hR hl hv)
theorem v_if_ne (o : z_O q X cc nL own nm ret) {x : Int32} {off : Int} (t : Nat) (d : decode cc pc = .ok (.ifCond .ne off, 3)) (ht : (pc : Int) + off = (t : Int)) (h1 : ¬ x = 0 → z_V q X nL Q k n G D t lv st) (h2 : x = 0 → z_V q X nL Q k n G D (pc + 3) lv st) : z_V q X nL Q k n G D pc lv (.int x :: st) :=
  fun H locs ls hR hl hv => lv_if_ne o.ex o.cd d ht (fun e => h1 e H locs ls hR hl hv) (fun e => h2 e H locs ls hR hl hv)
theorem v_icmp_ne (o : z_O q X cc nL own nm ret) {x y : Int32} {off : Int} (t : Nat) (d : decode cc pc = .ok (.if_icmp .ne off, 3)) (ht : (pc : Int) + off = (t : Int)) (h1 : ¬ x = y → z_V q X nL Q k n G D t lv st) (h2 : x = y → z_V q X nL Q k n G D (pc + 3) lv st) : z_V q X nL Q k n G D pc lv (.int y :: .int x :: st) :=
  fun H locs ls hR hl hv => lv_icmp_ne o.ex o.cd d ht (fun e => h1 e H locs ls hR hl hv) (fun e => h2 e H locs ls hR hl hv)
theorem v_if_lt (o : z_O q X cc nL own nm ret) {x : Int32} {off : Int} (t : Nat) (d : decode cc pc = .ok (.ifCond .lt off, 3)) (ht : (pc : Int) + off = (t : Int)) (h1 : x < 0 → z_V q X nL Q k n G D t lv st) (h2 : ¬ (x < 0) → z_V q X nL Q k n G D (pc + 3) lv st) : z_V q X nL Q k n G D pc lv (.int x :: st) :=
  fun H locs ls hR hl hv => lv_if_lt o.ex o.cd d ht (fun e => h1 e H locs ls hR hl hv) (fun e => h2 e H locs ls hR hl hv)
theorem v_icmp_lt (o : z_O q X cc nL own nm ret) {x y : Int32} {off : Int} (t : Nat) (d : decode cc pc = .ok (.if_icmp .lt off, 3)) (ht : (pc : Int) + off = (t : Int)) (h1 : x < y → z_V q X nL Q k n G D t lv st) (h2 : ¬ (x < y) → z_V q X nL Q k n G D (pc + 3) lv st) : z_V q X nL Q k n G D pc lv (.int y :: .int x :: st) :=
  fun H locs ls hR hl hv => lv_icmp_lt o.ex o.cd d ht (fun e => h1 e H locs ls hR hl hv) (fun e => h2 e H locs ls hR hl hv)
theorem v_if_ge (o : z_O q X cc nL own nm ret) {x : Int32} {off : Int} (t : Nat) (d : decode cc pc = .ok (.ifCond .ge off, 3)) (ht : (pc : Int) + off = (t : Int)) (h1 : 0 ≤ x → z_V q X nL Q k n G D t lv st) (h2 : ¬ (0 ≤ x) → z_V q X nL Q k n G D (pc + 3) lv st) : z_V q X nL Q k n G D pc lv (.int x :: st) :=
  fun H locs ls hR hl hv => lv_if_ge o.ex o.cd d ht (fun e => h1 e H locs ls hR hl hv) (fun e => h2 e H locs ls hR hl hv)
theorem v_icmp_ge (o : z_O q X cc nL own nm ret) {x y : Int32} {off : Int} (t : Nat) (d : decode cc pc = .ok (.if_icmp .ge off, 3)) (ht : (pc : Int) + off = (t : Int)) (h1 : y ≤ x → z_V q X nL Q k n G D t lv st) (h2 : ¬ (y ≤ x) → z_V q X nL Q k n G D (pc + 3) lv st) : z_V q X nL Q k n G D pc lv (.int y :: .int x :: st) :=
  fun H locs ls hR hl hv => lv_icmp_ge o.ex o.cd d ht (fun e => h1 e H locs ls hR hl hv) (fun e => h2 e H locs ls hR hl hv)
theorem v_if_gt (o : z_O q X cc nL own nm ret) {x : Int32} {off : Int} (t : Nat) (d : decode cc pc = .ok (.ifCond .gt off, 3)) (ht : (pc : Int) + off = (t : Int)) (h1 : 0 < x → z_V q X nL Q k n G D t lv st) (h2 : ¬ (0 < x) → z_V q X nL Q k n G D (pc + 3) lv st) : z_V q X nL Q k n G D pc lv (.int x :: st) :=
  fun H locs ls hR hl hv => lv_if_gt o.ex o.cd d ht (fun e => h1 e H locs ls hR hl hv) (fun e => h2 e H locs ls hR hl hv)
theorem v_icmp_gt (o : z_O q X cc nL own nm ret) {x y : Int32} {off : Int} (t : Nat) (d : decode cc pc = .ok (.if_icmp .gt off, 3)) (ht : (pc : Int) + off = (t : Int)) (h1 : y < x → z_V q X nL Q k n G D t lv st) (h2 : ¬ (y < x) → z_V q X nL Q k n G D (pc + 3) lv st) : z_V q X nL Q k n G D pc lv (.int y :: .int x :: st) :=
  fun H locs ls hR hl hv => lv_icmp_gt o.ex o.cd d ht (fun e => h1 e H locs ls hR hl hv) (fun e => h2 e H locs ls hR hl hv)
theorem v_if_le (o : z_O q X cc nL own nm ret) {x : Int32} {off : Int} (t : Nat) (d : decode cc pc = .ok (.ifCond .le off, 3)) (ht : (pc : Int) + off = (t : Int)) (h1 : x ≤ 0 → z_V q X nL Q k n G D t lv st) (h2 : ¬ (x ≤ 0) → z_V q X nL Q k n G D (pc + 3) lv st) : z_V q X nL Q k n G D pc lv (.int x :: st) :=
  fun H locs ls hR hl hv => lv_if_le o.ex o.cd d ht (fun e => h1 e H locs ls hR hl hv) (fun e => h2 e H locs ls hR hl hv)
theorem v_icmp_le (o : z_O q X cc nL own nm ret) {x y : Int32} {off : Int} (t : Nat) (d : decode cc pc = .ok (.if_icmp .le off, 3)) (ht : (pc : Int) + off = (t : Int)) (h1 : x ≤ y → z_V q X nL Q k n G D t lv st) (h2 : ¬ (x ≤ y) → z_V q X nL Q k n G D (pc + 3) lv st) : z_V q X nL Q k n G D pc lv (.int y :: .int x :: st) :=
  fun H locs ls hR hl hv => lv_icmp_le o.ex o.cd d ht (fun e => h1 e H locs ls hR hl hv) (fun e => h2 e H locs ls hR hl hv)
theorem v_goto (o : z_O q X cc nL own nm ret) {off : Int} (t : Nat) (d : decode cc pc = .ok (.goto off, 3)) (ht : (pc : Int) + off = (t : Int)) (h : z_V q X nL Q k n G D t lv st) : z_V q X nL Q k n G D pc lv st :=
  fun H locs ls hR hl hv => lv_goto o.ex o.cd d ht (h H locs ls hR hl hv)
theorem v_tabOut (o : z_O q X cc nL own nm ret) {df lo hi : Int} {offs : Array Int} {len : Nat} {x : Int32} (t : Nat) (d : decode cc pc = .ok (.tableswitch df lo hi offs, len)) (hx : x.toInt < lo ∨ hi < x.toInt) (ht : (pc : Int) + df = (t : Int)) (h : z_V q X nL Q k n G D t lv st) : z_V q X nL Q k n G D pc lv (.int x :: st) :=
  fun H locs ls hR hl hv => lv_tableOut o.ex o.cd d hx ht (h H locs ls hR hl hv)
theorem v_tabIn (o : z_O q X cc nL own nm ret) {df lo hi off : Int} {offs : Array Int} {len : Nat} {x : Int32} (t : Nat) (d : decode cc pc = .ok (.tableswitch df lo hi offs, len)) (h1 : ¬ x.toInt < lo) (h2 : ¬ hi < x.toInt) (ho : offs[(x.toInt - lo).toNat]? = some off) (ht : (pc : Int) + off = (t : Int)) (h : z_V q X nL Q k n G D t lv st) : z_V q X nL Q k n G D pc lv (.int x :: st) :=
  fun H locs ls hR hl hv => lv_tableIn o.ex o.cd d h1 h2 ho ht (h H locs ls hR hl hv)
theorem v_ldc (o : z_O q X cc nL own nm ret) {i : Nat} {v : Int32} (hw : Cond.constant own i v ∈ lw_tbl) (d : decode cc pc = .ok (.ldc i, 2)) (h : z_V q X nL Q k n G D (pc + 2) lv (.int v :: st)) : z_V q X nL Q k n G D pc lv st :=
  fun H locs ls hR hl hv => lv_ldc o.ex o.cd o.ow (o.tw hw rfl) d (h H locs ls hR hl hv)
theorem v_ldcw (o : z_O q X cc nL own nm ret) {i : Nat} {v : Int32} (hw : Cond.constant own i v ∈ lw_tbl) (d : decode cc pc = .ok (.ldc_w i, 3)) (h : z_V q X nL Q k n G D (pc + 3) lv (.int v :: st)) : z_V q X nL Q k n G D pc lv st :=
  fun H locs ls hR hl hv => lv_ldcw o.ex o.cd o.ow (o.tw hw rfl) d (h H locs ls hR hl hv)
theorem v_ldc2 (o : z_O q X cc nL own nm ret) {i : Nat} {v : Int64} (hw : Cond.constantLong own i v ∈ lw_tbl) (d : decode cc pc = .ok (.ldc2_w i, 3)) (h : z_V q X nL Q k n G D (pc + 3) lv (.long v :: st)) : z_V q X nL Q k n G D pc lv st :=
  fun H locs ls hR hl hv => lv_ldc2 o.ex o.cd o.ow (o.tw hw rfl) d (h H locs ls hR hl hv)
end ZR
