/-! rows: one an instruction kind -/
theorem zi_iadd {g : zg} {d : Nat} {y : zm} {post : zR → zM → Prop} {M : zM} {pc : Nat} {lv : List (Nat × Value)} {st : List Value} {x z : Int32} (hd : decode y.2.1 pc = .ok (.iadd, 1)) (k : zG g d y post M (pc + 1) lv (.int (x + z) :: st)) : zG g d y post M pc lv (.int z :: .int x :: st) := by
  intro p e R s m args below meth c Q H locs ls hc hM hS hl hz
  exact lv_iadd hc.1.1 hc.1.2.1 hd (k p e R s m args below meth c Q H locs ls hc hM hS hl hz)
theorem zi_isub {g : zg} {d : Nat} {y : zm} {post : zR → zM → Prop} {M : zM} {pc : Nat} {lv : List (Nat × Value)} {st : List Value} {x z : Int32} (hd : decode y.2.1 pc = .ok (.isub, 1)) (k : zG g d y post M (pc + 1) lv (.int (x - z) :: st)) : zG g d y post M pc lv (.int z :: .int x :: st) := by
  intro p e R s m args below meth c Q H locs ls hc hM hS hl hz
  exact lv_isub hc.1.1 hc.1.2.1 hd (k p e R s m args below meth c Q H locs ls hc hM hS hl hz)
theorem zi_imul {g : zg} {d : Nat} {y : zm} {post : zR → zM → Prop} {M : zM} {pc : Nat} {lv : List (Nat × Value)} {st : List Value} {x z : Int32} (hd : decode y.2.1 pc = .ok (.imul, 1)) (k : zG g d y post M (pc + 1) lv (.int (x * z) :: st)) : zG g d y post M pc lv (.int z :: .int x :: st) := by
  intro p e R s m args below meth c Q H locs ls hc hM hS hl hz
  exact lv_imul hc.1.1 hc.1.2.1 hd (k p e R s m args below meth c Q H locs ls hc hM hS hl hz)
theorem zi_iand {g : zg} {d : Nat} {y : zm} {post : zR → zM → Prop} {M : zM} {pc : Nat} {lv : List (Nat × Value)} {st : List Value} {x z : Int32} (hd : decode y.2.1 pc = .ok (.iand, 1)) (k : zG g d y post M (pc + 1) lv (.int (x &&& z) :: st)) : zG g d y post M pc lv (.int z :: .int x :: st) := by
  intro p e R s m args below meth c Q H locs ls hc hM hS hl hz
  exact lv_iand hc.1.1 hc.1.2.1 hd (k p e R s m args below meth c Q H locs ls hc hM hS hl hz)
theorem zi_ior {g : zg} {d : Nat} {y : zm} {post : zR → zM → Prop} {M : zM} {pc : Nat} {lv : List (Nat × Value)} {st : List Value} {x z : Int32} (hd : decode y.2.1 pc = .ok (.ior, 1)) (k : zG g d y post M (pc + 1) lv (.int (x ||| z) :: st)) : zG g d y post M pc lv (.int z :: .int x :: st) := by
  intro p e R s m args below meth c Q H locs ls hc hM hS hl hz
  exact lv_ior hc.1.1 hc.1.2.1 hd (k p e R s m args below meth c Q H locs ls hc hM hS hl hz)
theorem zi_ixor {g : zg} {d : Nat} {y : zm} {post : zR → zM → Prop} {M : zM} {pc : Nat} {lv : List (Nat × Value)} {st : List Value} {x z : Int32} (hd : decode y.2.1 pc = .ok (.ixor, 1)) (k : zG g d y post M (pc + 1) lv (.int (x ^^^ z) :: st)) : zG g d y post M pc lv (.int z :: .int x :: st) := by
  intro p e R s m args below meth c Q H locs ls hc hM hS hl hz
  exact lv_ixor hc.1.1 hc.1.2.1 hd (k p e R s m args below meth c Q H locs ls hc hM hS hl hz)
theorem zi_ineg {g : zg} {d : Nat} {y : zm} {post : zR → zM → Prop} {M : zM} {pc : Nat} {lv : List (Nat × Value)} {st : List Value} {x : Int32} (hd : decode y.2.1 pc = .ok (.ineg, 1)) (k : zG g d y post M (pc + 1) lv (.int (-x) :: st)) : zG g d y post M pc lv (.int x :: st) := by
  intro p e R s m args below meth c Q H locs ls hc hM hS hl hz
  exact lv_ineg hc.1.1 hc.1.2.1 hd (k p e R s m args below meth c Q H locs ls hc hM hS hl hz)
theorem zi_ishl {g : zg} {d : Nat} {y : zm} {post : zR → zM → Prop} {M : zM} {pc : Nat} {lv : List (Nat × Value)} {st : List Value} {x z : Int32} (hd : decode y.2.1 pc = .ok (.ishl, 1)) (k : zG g d y post M (pc + 1) lv (.int (x <<< (z &&& 31)) :: st)) : zG g d y post M pc lv (.int z :: .int x :: st) := by
  intro p e R s m args below meth c Q H locs ls hc hM hS hl hz
  exact lv_ishl hc.1.1 hc.1.2.1 hd (k p e R s m args below meth c Q H locs ls hc hM hS hl hz)
theorem zi_ishr {g : zg} {d : Nat} {y : zm} {post : zR → zM → Prop} {M : zM} {pc : Nat} {lv : List (Nat × Value)} {st : List Value} {x z : Int32} (hd : decode y.2.1 pc = .ok (.ishr, 1)) (k : zG g d y post M (pc + 1) lv (.int (x >>> (z &&& 31)) :: st)) : zG g d y post M pc lv (.int z :: .int x :: st) := by
  intro p e R s m args below meth c Q H locs ls hc hM hS hl hz
  exact lv_ishr hc.1.1 hc.1.2.1 hd (k p e R s m args below meth c Q H locs ls hc hM hS hl hz)
theorem zi_iushr {g : zg} {d : Nat} {y : zm} {post : zR → zM → Prop} {M : zM} {pc : Nat} {lv : List (Nat × Value)} {st : List Value} {x z : Int32} (hd : decode y.2.1 pc = .ok (.iushr, 1)) (k : zG g d y post M (pc + 1) lv (.int (x.toUInt32 >>> (z.toUInt32 &&& Int32.toUInt32 31)).toInt32 :: st)) : zG g d y post M pc lv (.int z :: .int x :: st) := by
  intro p e R s m args below meth c Q H locs ls hc hM hS hl hz
  exact lv_iushr hc.1.1 hc.1.2.1 hd rfl (k p e R s m args below meth c Q H locs ls hc hM hS hl hz)
theorem zi_idiv {g : zg} {d : Nat} {y : zm} {post : zR → zM → Prop} {M : zM} {pc : Nat} {lv : List (Nat × Value)} {st : List Value} {x z : Int32} (hz0 : ¬ z = 0) (hd : decode y.2.1 pc = .ok (.idiv, 1)) (k : zG g d y post M (pc + 1) lv (.int (x / z) :: st)) : zG g d y post M pc lv (.int z :: .int x :: st) := by
  intro p e R s m args below meth c Q H locs ls hc hM hS hl hz
  exact lv_idiv hc.1.1 hc.1.2.1 hd hz0 (k p e R s m args below meth c Q H locs ls hc hM hS hl hz)
theorem zi_irem {g : zg} {d : Nat} {y : zm} {post : zR → zM → Prop} {M : zM} {pc : Nat} {lv : List (Nat × Value)} {st : List Value} {x z : Int32} (hz0 : ¬ z = 0) (hd : decode y.2.1 pc = .ok (.irem, 1)) (k : zG g d y post M (pc + 1) lv (.int (x - x / z * z) :: st)) : zG g d y post M pc lv (.int z :: .int x :: st) := by
  intro p e R s m args below meth c Q H locs ls hc hM hS hl hz
  exact lv_irem hc.1.1 hc.1.2.1 hd hz0 (k p e R s m args below meth c Q H locs ls hc hM hS hl hz)
theorem zi_i2l {g : zg} {d : Nat} {y : zm} {post : zR → zM → Prop} {M : zM} {pc : Nat} {lv : List (Nat × Value)} {st : List Value} {x : Int32} (hd : decode y.2.1 pc = .ok (.i2l, 1)) (k : zG g d y post M (pc + 1) lv (.long x.toInt64 :: st)) : zG g d y post M pc lv (.int x :: st) := by
  intro p e R s m args below meth c Q H locs ls hc hM hS hl hz
  exact lv_i2l hc.1.1 hc.1.2.1 hd rfl (k p e R s m args below meth c Q H locs ls hc hM hS hl hz)
theorem zi_l2i {g : zg} {d : Nat} {y : zm} {post : zR → zM → Prop} {M : zM} {pc : Nat} {lv : List (Nat × Value)} {st : List Value} {x : Int64} (hd : decode y.2.1 pc = .ok (.l2i, 1)) (k : zG g d y post M (pc + 1) lv (.int x.toInt32 :: st)) : zG g d y post M pc lv (.long x :: st) := by
  intro p e R s m args below meth c Q H locs ls hc hM hS hl hz
  exact lv_l2i hc.1.1 hc.1.2.1 hd rfl (k p e R s m args below meth c Q H locs ls hc hM hS hl hz)
theorem zi_i2c {g : zg} {d : Nat} {y : zm} {post : zR → zM → Prop} {M : zM} {pc : Nat} {lv : List (Nat × Value)} {st : List Value} {x : Int32} (hd : decode y.2.1 pc = .ok (.i2c, 1)) (k : zG g d y post M (pc + 1) lv (.int (x.toUInt32 % 65536).toInt32 :: st)) : zG g d y post M pc lv (.int x :: st) := by
  intro p e R s m args below meth c Q H locs ls hc hM hS hl hz
  exact lv_i2c hc.1.1 hc.1.2.1 hd rfl (k p e R s m args below meth c Q H locs ls hc hM hS hl hz)
theorem zi_lushr {g : zg} {d : Nat} {y : zm} {post : zR → zM → Prop} {M : zM} {pc : Nat} {lv : List (Nat × Value)} {st : List Value} {x : Int64} {z : Int32} (hd : decode y.2.1 pc = .ok (.lushr, 1)) (k : zG g d y post M (pc + 1) lv (.long (x.toUInt64 >>> (z.toInt64.toUInt64 &&& Int64.toUInt64 63)).toInt64 :: st)) : zG g d y post M pc lv (.int z :: .long x :: st) := by
  intro p e R s m args below meth c Q H locs ls hc hM hS hl hz
  exact lv_lushr hc.1.1 hc.1.2.1 hd rfl (k p e R s m args below meth c Q H locs ls hc hM hS hl hz)
theorem zi_lshl {g : zg} {d : Nat} {y : zm} {post : zR → zM → Prop} {M : zM} {pc : Nat} {lv : List (Nat × Value)} {st : List Value} {x : Int64} {z : Int32} (hd : decode y.2.1 pc = .ok (.lshl, 1)) (k : zG g d y post M (pc + 1) lv (.long (x <<< (z.toInt64 &&& 63)) :: st)) : zG g d y post M pc lv (.int z :: .long x :: st) := by
  intro p e R s m args below meth c Q H locs ls hc hM hS hl hz
  exact lv_lshl hc.1.1 hc.1.2.1 hd rfl (k p e R s m args below meth c Q H locs ls hc hM hS hl hz)
theorem zi_land {g : zg} {d : Nat} {y : zm} {post : zR → zM → Prop} {M : zM} {pc : Nat} {lv : List (Nat × Value)} {st : List Value} {x z : Int64} (hd : decode y.2.1 pc = .ok (.land, 1)) (k : zG g d y post M (pc + 1) lv (.long (x &&& z) :: st)) : zG g d y post M pc lv (.long z :: .long x :: st) := by
  intro p e R s m args below meth c Q H locs ls hc hM hS hl hz
  exact lv_land hc.1.1 hc.1.2.1 hd (k p e R s m args below meth c Q H locs ls hc hM hS hl hz)
theorem zi_lor {g : zg} {d : Nat} {y : zm} {post : zR → zM → Prop} {M : zM} {pc : Nat} {lv : List (Nat × Value)} {st : List Value} {x z : Int64} (hd : decode y.2.1 pc = .ok (.lor, 1)) (k : zG g d y post M (pc + 1) lv (.long (x ||| z) :: st)) : zG g d y post M pc lv (.long z :: .long x :: st) := by
  intro p e R s m args below meth c Q H locs ls hc hM hS hl hz
  exact lv_lor hc.1.1 hc.1.2.1 hd (k p e R s m args below meth c Q H locs ls hc hM hS hl hz)
theorem zi_ladd {g : zg} {d : Nat} {y : zm} {post : zR → zM → Prop} {M : zM} {pc : Nat} {lv : List (Nat × Value)} {st : List Value} {x z : Int64} (hd : decode y.2.1 pc = .ok (.ladd, 1)) (k : zG g d y post M (pc + 1) lv (.long (x + z) :: st)) : zG g d y post M pc lv (.long z :: .long x :: st) := by
  intro p e R s m args below meth c Q H locs ls hc hM hS hl hz
  exact lv_ladd hc.1.1 hc.1.2.1 hd (k p e R s m args below meth c Q H locs ls hc hM hS hl hz)
theorem zi_iconst {g : zg} {d : Nat} {y : zm} {post : zR → zM → Prop} {M : zM} {pc : Nat} {lv : List (Nat × Value)} {st : List Value} {n : Int} {v : Int32} (hd : decode y.2.1 pc = .ok (.iconst n, 1)) (hv : Int32.ofInt n = v) (k : zG g d y post M (pc + 1) lv (.int v :: st)) : zG g d y post M pc lv (st) := by
  intro p e R s m args below meth c Q H locs ls hc hM hS hl hz
  exact lv_iconst hc.1.1 hc.1.2.1 hd hv (k p e R s m args below meth c Q H locs ls hc hM hS hl hz)
theorem zi_bipush {g : zg} {d : Nat} {y : zm} {post : zR → zM → Prop} {M : zM} {pc : Nat} {lv : List (Nat × Value)} {st : List Value} {n : Int} {v : Int32} (hd : decode y.2.1 pc = .ok (.bipush n, 2)) (hv : (Int8.ofInt n).toInt32 = v) (k : zG g d y post M (pc + 2) lv (.int v :: st)) : zG g d y post M pc lv (st) := by
  intro p e R s m args below meth c Q H locs ls hc hM hS hl hz
  exact lv_bipush hc.1.1 hc.1.2.1 hd hv (k p e R s m args below meth c Q H locs ls hc hM hS hl hz)
theorem zi_sipush {g : zg} {d : Nat} {y : zm} {post : zR → zM → Prop} {M : zM} {pc : Nat} {lv : List (Nat × Value)} {st : List Value} {n : Int} {v : Int32} (hd : decode y.2.1 pc = .ok (.sipush n, 3)) (hv : (Int16.ofInt n).toInt32 = v) (k : zG g d y post M (pc + 3) lv (.int v :: st)) : zG g d y post M pc lv (st) := by
  intro p e R s m args below meth c Q H locs ls hc hM hS hl hz
  exact lv_sipush hc.1.1 hc.1.2.1 hd hv (k p e R s m args below meth c Q H locs ls hc hM hS hl hz)
theorem zi_lconst {g : zg} {d : Nat} {y : zm} {post : zR → zM → Prop} {M : zM} {pc : Nat} {lv : List (Nat × Value)} {st : List Value} {n : Fin 2} {v : Int64} (hd : decode y.2.1 pc = .ok (.lconst n, 1)) (hv : Int64.ofNat (n : Nat) = v) (k : zG g d y post M (pc + 1) lv (.long v :: st)) : zG g d y post M pc lv (st) := by
  intro p e R s m args below meth c Q H locs ls hc hM hS hl hz
  exact lv_lconst hc.1.1 hc.1.2.1 hd hv (k p e R s m args below meth c Q H locs ls hc hM hS hl hz)
theorem zi_null {g : zg} {d : Nat} {y : zm} {post : zR → zM → Prop} {M : zM} {pc : Nat} {lv : List (Nat × Value)} {st : List Value} (hd : decode y.2.1 pc = .ok (.aconst_null, 1)) (k : zG g d y post M (pc + 1) lv (va_rf none :: st)) : zG g d y post M pc lv (st) := by
  intro p e R s m args below meth c Q H locs ls hc hM hS hl hz
  exact lv_null hc.1.1 hc.1.2.1 hd (k p e R s m args below meth c Q H locs ls hc hM hS hl hz)
theorem zi_ldc {g : zg} {d : Nat} {y : zm} {post : zR → zM → Prop} {M : zM} {pc : Nat} {lv : List (Nat × Value)} {st : List Value} {i : Nat} {v : Int32} (hw : Cond.constant y.1.cls i v ∈ zCW) (hd : decode y.2.1 pc = .ok (.ldc i, 2)) (k : zG g d y post M (pc + 2) lv (.int v :: st)) : zG g d y post M pc lv (st) := by
  intro p e R s m args below meth c Q H locs ls hc hM hS hl hz
  exact lv_ldc hc.1.1 hc.1.2.1 hc.1.2.2.2.1 (hc.1.2.2.2.2.1 _ hw) hd (k p e R s m args below meth c Q H locs ls hc hM hS hl hz)
theorem zi_ldc2 {g : zg} {d : Nat} {y : zm} {post : zR → zM → Prop} {M : zM} {pc : Nat} {lv : List (Nat × Value)} {st : List Value} {i : Nat} {v : Int64} (hw : Cond.constantLong y.1.cls i v ∈ zCW) (hd : decode y.2.1 pc = .ok (.ldc2_w i, 3)) (k : zG g d y post M (pc + 3) lv (.long v :: st)) : zG g d y post M pc lv (st) := by
  intro p e R s m args below meth c Q H locs ls hc hM hS hl hz
  exact lv_ldc2 hc.1.1 hc.1.2.1 hc.1.2.2.2.1 (hc.1.2.2.2.2.1 _ hw) hd (k p e R s m args below meth c Q H locs ls hc hM hS hl hz)
theorem zi_iload_n {g : zg} {d : Nat} {y : zm} {post : zR → zM → Prop} {M : zM} {pc : Nat} {lv : List (Nat × Value)} {st : List Value} {i : Fin 4} {x : Int32} (q : Nat) (hd : decode y.2.1 pc = .ok (.iload_n i, 1)) (hq : lv[q]? = some ((i : Nat), .int x)) (k : zG g d y post M (pc + 1) lv (.int x :: st)) : zG g d y post M pc lv (st) := by
  intro p e R s m args below meth c Q H locs ls hc hM hS hl hz
  exact lv_iload_n hc.1.1 hc.1.2.1 hd rfl (lv_at hl q hq) (k p e R s m args below meth c Q H locs ls hc hM hS hl hz)
theorem zi_iload {g : zg} {d : Nat} {y : zm} {post : zR → zM → Prop} {M : zM} {pc : Nat} {lv : List (Nat × Value)} {st : List Value} {i : Nat} {x : Int32} (q : Nat) (hd : decode y.2.1 pc = .ok (.iload i, 2)) (hq : lv[q]? = some (i, .int x)) (k : zG g d y post M (pc + 2) lv (.int x :: st)) : zG g d y post M pc lv (st) := by
  intro p e R s m args below meth c Q H locs ls hc hM hS hl hz
  exact lv_iload hc.1.1 hc.1.2.1 hd (lv_at hl q hq) (k p e R s m args below meth c Q H locs ls hc hM hS hl hz)
theorem zi_lload_n {g : zg} {d : Nat} {y : zm} {post : zR → zM → Prop} {M : zM} {pc : Nat} {lv : List (Nat × Value)} {st : List Value} {i : Fin 4} {x : Int64} (q : Nat) (hd : decode y.2.1 pc = .ok (.lload_n i, 1)) (hq : lv[q]? = some ((i : Nat), .long x)) (k : zG g d y post M (pc + 1) lv (.long x :: st)) : zG g d y post M pc lv (st) := by
  intro p e R s m args below meth c Q H locs ls hc hM hS hl hz
  exact lv_lload_n hc.1.1 hc.1.2.1 hd rfl (lv_at hl q hq) (k p e R s m args below meth c Q H locs ls hc hM hS hl hz)
theorem zi_lload {g : zg} {d : Nat} {y : zm} {post : zR → zM → Prop} {M : zM} {pc : Nat} {lv : List (Nat × Value)} {st : List Value} {i : Nat} {x : Int64} (q : Nat) (hd : decode y.2.1 pc = .ok (.lload i, 2)) (hq : lv[q]? = some (i, .long x)) (k : zG g d y post M (pc + 2) lv (.long x :: st)) : zG g d y post M pc lv (st) := by
  intro p e R s m args below meth c Q H locs ls hc hM hS hl hz
  exact lv_lload hc.1.1 hc.1.2.1 hd (lv_at hl q hq) (k p e R s m args below meth c Q H locs ls hc hM hS hl hz)
theorem zi_aload_n {g : zg} {d : Nat} {y : zm} {post : zR → zM → Prop} {M : zM} {pc : Nat} {lv : List (Nat × Value)} {st : List Value} {i : Fin 4} {x : Option Nat} (q : Nat) (hd : decode y.2.1 pc = .ok (.aload_n i, 1)) (hq : lv[q]? = some ((i : Nat), va_rf x)) (k : zG g d y post M (pc + 1) lv (va_rf x :: st)) : zG g d y post M pc lv st := by
  intro p e R s m args below meth c Q H locs ls hc hM hS hl hz
  cases x with
  | none => exact lv_aload_nN hc.1.1 hc.1.2.1 hd rfl (lv_at hl q hq) (k p e R s m args below meth c Q H locs ls hc hM hS hl hz)
  | some x => exact lv_aload_n hc.1.1 hc.1.2.1 hd rfl (lv_at hl q hq) (k p e R s m args below meth c Q H locs ls hc hM hS hl hz)
theorem zi_aload {g : zg} {d : Nat} {y : zm} {post : zR → zM → Prop} {M : zM} {pc : Nat} {lv : List (Nat × Value)} {st : List Value} {i : Nat} {x : Option Nat} (q : Nat) (hd : decode y.2.1 pc = .ok (.aload i, 2)) (hq : lv[q]? = some (i, va_rf x)) (k : zG g d y post M (pc + 2) lv (va_rf x :: st)) : zG g d y post M pc lv st := by
  intro p e R s m args below meth c Q H locs ls hc hM hS hl hz
  cases x with
  | none => exact lv_aloadN hc.1.1 hc.1.2.1 hd (lv_at hl q hq) (k p e R s m args below meth c Q H locs ls hc hM hS hl hz)
  | some x => exact lv_aload hc.1.1 hc.1.2.1 hd (lv_at hl q hq) (k p e R s m args below meth c Q H locs ls hc hM hS hl hz)
theorem zi_istore_n {g : zg} {d : Nat} {y : zm} {post : zR → zM → Prop} {M : zM} {pc : Nat} {lv : List (Nat × Value)} {st : List Value} {i : Fin 4} {x : Int32} {lv' : List (Nat × Value)} (hd : decode y.2.1 pc = .ok (.istore_n i, 1)) (hn : (i : Nat) < y.2.2.1) (hf : ((i : Nat), Value.int x) :: lv.filter (fun q => !(q.1 == (i : Nat)) && !(q.1 + 1 == (i : Nat) && q.2.category == 2)) = lv') (k : zG g d y post M (pc + 1) lv' (st)) : zG g d y post M pc lv (Value.int x :: st) := by
  intro p e R s m args below meth c Q H locs ls hc hM hS hl hz
  exact lv_istore_n hc.1.1 hc.1.2.1 hd rfl hl hn hf (fun ls hl => k p e R s m args below meth c Q H locs ls hc hM hS hl hz)
theorem zi_istore {g : zg} {d : Nat} {y : zm} {post : zR → zM → Prop} {M : zM} {pc : Nat} {lv : List (Nat × Value)} {st : List Value} {i : Nat} {x : Int32} {lv' : List (Nat × Value)} (hd : decode y.2.1 pc = .ok (.istore i, 2)) (hn : i < y.2.2.1) (hf : (i, Value.int x) :: lv.filter (fun q => !(q.1 == i) && !(q.1 + 1 == i && q.2.category == 2)) = lv') (k : zG g d y post M (pc + 2) lv' (st)) : zG g d y post M pc lv (Value.int x :: st) := by
  intro p e R s m args below meth c Q H locs ls hc hM hS hl hz
  exact lv_istore hc.1.1 hc.1.2.1 hd hl hn hf (fun ls hl => k p e R s m args below meth c Q H locs ls hc hM hS hl hz)
theorem zi_lstore_n {g : zg} {d : Nat} {y : zm} {post : zR → zM → Prop} {M : zM} {pc : Nat} {lv : List (Nat × Value)} {st : List Value} {i : Fin 4} {x : Int64} {lv' : List (Nat × Value)} (hd : decode y.2.1 pc = .ok (.lstore_n i, 1)) (hn : (i : Nat) + 1 < y.2.2.1) (hf : ((i : Nat), Value.long x) :: lv.filter (fun q => !(q.1 == (i : Nat)) && (!(q.1 == (i : Nat) + 1) && !(q.1 + 1 == (i : Nat) && q.2.category == 2))) = lv') (k : zG g d y post M (pc + 1) lv' (st)) : zG g d y post M pc lv (Value.long x :: st) := by
  intro p e R s m args below meth c Q H locs ls hc hM hS hl hz
  exact lv_lstore_n hc.1.1 hc.1.2.1 hd rfl hl hn hf (fun ls hl => k p e R s m args below meth c Q H locs ls hc hM hS hl hz)
theorem zi_lstore {g : zg} {d : Nat} {y : zm} {post : zR → zM → Prop} {M : zM} {pc : Nat} {lv : List (Nat × Value)} {st : List Value} {i : Nat} {x : Int64} {lv' : List (Nat × Value)} (hd : decode y.2.1 pc = .ok (.lstore i, 2)) (hn : i + 1 < y.2.2.1) (hf : (i, Value.long x) :: lv.filter (fun q => !(q.1 == i) && (!(q.1 == i + 1) && !(q.1 + 1 == i && q.2.category == 2))) = lv') (k : zG g d y post M (pc + 2) lv' (st)) : zG g d y post M pc lv (Value.long x :: st) := by
  intro p e R s m args below meth c Q H locs ls hc hM hS hl hz
  exact lv_lstore hc.1.1 hc.1.2.1 hd hl hn hf (fun ls hl => k p e R s m args below meth c Q H locs ls hc hM hS hl hz)
theorem zi_astore_n {g : zg} {d : Nat} {y : zm} {post : zR → zM → Prop} {M : zM} {pc : Nat} {lv : List (Nat × Value)} {st : List Value} {i : Fin 4} {x : Option Nat} {lv' : List (Nat × Value)} (hd : decode y.2.1 pc = .ok (.astore_n i, 1)) (hn : (i : Nat) < y.2.2.1) (hf : ((i : Nat), va_rf x) :: lv.filter (fun q => !(q.1 == (i : Nat)) && !(q.1 + 1 == (i : Nat) && q.2.category == 2)) = lv') (k : zG g d y post M (pc + 1) lv' st) : zG g d y post M pc lv (va_rf x :: st) := by
  intro p e R s m args below meth c Q H locs ls hc hM hS hl hz
  cases x with
  | none => exact lv_astore_nN hc.1.1 hc.1.2.1 hd rfl hl hn hf (fun ls hl => k p e R s m args below meth c Q H locs ls hc hM hS hl hz)
  | some x => exact lv_astore_n hc.1.1 hc.1.2.1 hd rfl hl hn hf (fun ls hl => k p e R s m args below meth c Q H locs ls hc hM hS hl hz)
theorem zi_astore {g : zg} {d : Nat} {y : zm} {post : zR → zM → Prop} {M : zM} {pc : Nat} {lv : List (Nat × Value)} {st : List Value} {i : Nat} {x : Option Nat} {lv' : List (Nat × Value)} (hd : decode y.2.1 pc = .ok (.astore i, 2)) (hn : i < y.2.2.1) (hf : (i, va_rf x) :: lv.filter (fun q => !(q.1 == i) && !(q.1 + 1 == i && q.2.category == 2)) = lv') (k : zG g d y post M (pc + 2) lv' st) : zG g d y post M pc lv (va_rf x :: st) := by
  intro p e R s m args below meth c Q H locs ls hc hM hS hl hz
  cases x with
  | none => exact lv_astoreN hc.1.1 hc.1.2.1 hd hl hn hf (fun ls hl => k p e R s m args below meth c Q H locs ls hc hM hS hl hz)
  | some x => exact lv_astore hc.1.1 hc.1.2.1 hd hl hn hf (fun ls hl => k p e R s m args below meth c Q H locs ls hc hM hS hl hz)
theorem zi_iinc {g : zg} {d : Nat} {y : zm} {post : zR → zM → Prop} {M : zM} {pc : Nat} {lv : List (Nat × Value)} {st : List Value} {i : Nat} {n : Int} {x v : Int32} {lv' : List (Nat × Value)} (q : Nat) (hd : decode y.2.1 pc = .ok (.iinc i n, 3)) (hq : lv[q]? = some (i, .int x)) (hv : x + Int32.ofInt n = v) (hn : i < y.2.2.1) (hf : (i, Value.int v) :: lv.filter (fun q => !(q.1 == i) && !(q.1 + 1 == i && q.2.category == 2)) = lv') (k : zG g d y post M (pc + 3) lv' (st)) : zG g d y post M pc lv (st) := by
  intro p e R s m args below meth c Q H locs ls hc hM hS hl hz
  exact lv_iinc hc.1.1 hc.1.2.1 hd hl hq hv hn hf (fun ls hl => k p e R s m args below meth c Q H locs ls hc hM hS hl hz)
theorem zi_dup {g : zg} {d : Nat} {y : zm} {post : zR → zM → Prop} {M : zM} {pc : Nat} {lv : List (Nat × Value)} {st : List Value} {va : Value} (hd : decode y.2.1 pc = .ok (.dup, 1)) (h1 : va.category = 1) (k : zG g d y post M (pc + 1) lv (va :: va :: st)) : zG g d y post M pc lv (va :: st) := by
  intro p e R s m args below meth c Q H locs ls hc hM hS hl hz
  exact lv_dup hc.1.1 hc.1.2.1 hd h1 (k p e R s m args below meth c Q H locs ls hc hM hS hl hz)
theorem zi_pop {g : zg} {d : Nat} {y : zm} {post : zR → zM → Prop} {M : zM} {pc : Nat} {lv : List (Nat × Value)} {st : List Value} {va : Value} (hd : decode y.2.1 pc = .ok (.pop, 1)) (h1 : va.category = 1) (k : zG g d y post M (pc + 1) lv (st)) : zG g d y post M pc lv (va :: st) := by
  intro p e R s m args below meth c Q H locs ls hc hM hS hl hz
  exact lv_pop hc.1.1 hc.1.2.1 hd h1 (k p e R s m args below meth c Q H locs ls hc hM hS hl hz)
theorem zi_dup_x1 {g : zg} {d : Nat} {y : zm} {post : zR → zM → Prop} {M : zM} {pc : Nat} {lv : List (Nat × Value)} {st : List Value} {va vb : Value} (hd : decode y.2.1 pc = .ok (.dup_x1, 1)) (h1 : va.category = 1) (h2 : vb.category = 1) (k : zG g d y post M (pc + 1) lv (va :: vb :: va :: st)) : zG g d y post M pc lv (va :: vb :: st) := by
  intro p e R s m args below meth c Q H locs ls hc hM hS hl hz
  exact lv_dup_x1 hc.1.1 hc.1.2.1 hd h1 h2 (k p e R s m args below meth c Q H locs ls hc hM hS hl hz)
theorem zi_dup_x2 {g : zg} {d : Nat} {y : zm} {post : zR → zM → Prop} {M : zM} {pc : Nat} {lv : List (Nat × Value)} {st : List Value} {va vb vd : Value} (hd : decode y.2.1 pc = .ok (.dup_x2, 1)) (h1 : va.category = 1) (h2 : vb.category = 1) (h3 : vd.category = 1) (k : zG g d y post M (pc + 1) lv (va :: vb :: vd :: va :: st)) : zG g d y post M pc lv (va :: vb :: vd :: st) := by
  intro p e R s m args below meth c Q H locs ls hc hM hS hl hz
  exact lv_dup_x2 hc.1.1 hc.1.2.1 hd h1 h2 h3 (k p e R s m args below meth c Q H locs ls hc hM hS hl hz)
theorem zi_dup2 {g : zg} {d : Nat} {y : zm} {post : zR → zM → Prop} {M : zM} {pc : Nat} {lv : List (Nat × Value)} {st : List Value} {va vb : Value} (hd : decode y.2.1 pc = .ok (.dup2, 1)) (h1 : va.category = 1) (h2 : vb.category = 1) (k : zG g d y post M (pc + 1) lv (va :: vb :: va :: vb :: st)) : zG g d y post M pc lv (va :: vb :: st) := by
  intro p e R s m args below meth c Q H locs ls hc hM hS hl hz
  exact lv_dup2_11 hc.1.1 hc.1.2.1 hd h1 h2 (k p e R s m args below meth c Q H locs ls hc hM hS hl hz)
theorem zi_if_eq {g : zg} {d : Nat} {y : zm} {post : zR → zM → Prop} {M : zM} {pc : Nat} {lv : List (Nat × Value)} {st : List Value} {x : Int32} {off : Int} {tgt : Nat} (hd : decode y.2.1 pc = .ok (.ifCond .eq off, 3)) (ht : (pc : Int) + off = (tgt : Int)) (kt : x = 0 → zG g d y post M tgt lv st) (kf : ¬ x = 0 → zG g d y post M (pc + 3) lv st) : zG g d y post M pc lv (.int x :: st) := by
  intro p e R s m args below meth c Q H locs ls hc hM hS hl hz
  exact lv_if_eq hc.1.1 hc.1.2.1 hd ht (fun q => kt q p e R s m args below meth c Q H locs ls hc hM hS hl hz) (fun q => kf q p e R s m args below meth c Q H locs ls hc hM hS hl hz)
theorem zi_icmp_eq {g : zg} {d : Nat} {y : zm} {post : zR → zM → Prop} {M : zM} {pc : Nat} {lv : List (Nat × Value)} {st : List Value} {x z : Int32} {off : Int} {tgt : Nat} (hd : decode y.2.1 pc = .ok (.if_icmp .eq off, 3)) (ht : (pc : Int) + off = (tgt : Int)) (kt : x = z → zG g d y post M tgt lv st) (kf : ¬ x = z → zG g d y post M (pc + 3) lv st) : zG g d y post M pc lv (.int z :: .int x :: st) := by
  intro p e R s m args below meth c Q H locs ls hc hM hS hl hz
  exact lv_icmp_eq hc.1.1 hc.1.2.1 hd ht (fun q => kt q p e R s m args below meth c Q H locs ls hc hM hS hl hz) (fun q => kf q p e R s m args below meth c Q H locs ls hc hM hS hl hz)
theorem zi_if_ne {g : zg} {d : Nat} {y : zm} {post : zR → zM → Prop} {M : zM} {pc : Nat} {lv : List (Nat × Value)} {st : List Value} {x : Int32} {off : Int} {tgt : Nat} (hd : decode y.2.1 pc = .ok (.ifCond .ne off, 3)) (ht : (pc : Int) + off = (tgt : Int)) (kt : ¬ x = 0 → zG g d y post M tgt lv st) (kf : x = 0 → zG g d y post M (pc + 3) lv st) : zG g d y post M pc lv (.int x :: st) := by
  intro p e R s m args below meth c Q H locs ls hc hM hS hl hz
  exact lv_if_ne hc.1.1 hc.1.2.1 hd ht (fun q => kt q p e R s m args below meth c Q H locs ls hc hM hS hl hz) (fun q => kf q p e R s m args below meth c Q H locs ls hc hM hS hl hz)
theorem zi_icmp_ne {g : zg} {d : Nat} {y : zm} {post : zR → zM → Prop} {M : zM} {pc : Nat} {lv : List (Nat × Value)} {st : List Value} {x z : Int32} {off : Int} {tgt : Nat} (hd : decode y.2.1 pc = .ok (.if_icmp .ne off, 3)) (ht : (pc : Int) + off = (tgt : Int)) (kt : ¬ x = z → zG g d y post M tgt lv st) (kf : x = z → zG g d y post M (pc + 3) lv st) : zG g d y post M pc lv (.int z :: .int x :: st) := by
  intro p e R s m args below meth c Q H locs ls hc hM hS hl hz
  exact lv_icmp_ne hc.1.1 hc.1.2.1 hd ht (fun q => kt q p e R s m args below meth c Q H locs ls hc hM hS hl hz) (fun q => kf q p e R s m args below meth c Q H locs ls hc hM hS hl hz)
theorem zi_if_lt {g : zg} {d : Nat} {y : zm} {post : zR → zM → Prop} {M : zM} {pc : Nat} {lv : List (Nat × Value)} {st : List Value} {x : Int32} {off : Int} {tgt : Nat} (hd : decode y.2.1 pc = .ok (.ifCond .lt off, 3)) (ht : (pc : Int) + off = (tgt : Int)) (kt : x < 0 → zG g d y post M tgt lv st) (kf : ¬ x < 0 → zG g d y post M (pc + 3) lv st) : zG g d y post M pc lv (.int x :: st) := by
  intro p e R s m args below meth c Q H locs ls hc hM hS hl hz
  exact lv_if_lt hc.1.1 hc.1.2.1 hd ht (fun q => kt q p e R s m args below meth c Q H locs ls hc hM hS hl hz) (fun q => kf q p e R s m args below meth c Q H locs ls hc hM hS hl hz)
theorem zi_icmp_lt {g : zg} {d : Nat} {y : zm} {post : zR → zM → Prop} {M : zM} {pc : Nat} {lv : List (Nat × Value)} {st : List Value} {x z : Int32} {off : Int} {tgt : Nat} (hd : decode y.2.1 pc = .ok (.if_icmp .lt off, 3)) (ht : (pc : Int) + off = (tgt : Int)) (kt : x < z → zG g d y post M tgt lv st) (kf : ¬ x < z → zG g d y post M (pc + 3) lv st) : zG g d y post M pc lv (.int z :: .int x :: st) := by
  intro p e R s m args below meth c Q H locs ls hc hM hS hl hz
  exact lv_icmp_lt hc.1.1 hc.1.2.1 hd ht (fun q => kt q p e R s m args below meth c Q H locs ls hc hM hS hl hz) (fun q => kf q p e R s m args below meth c Q H locs ls hc hM hS hl hz)
theorem zi_if_ge {g : zg} {d : Nat} {y : zm} {post : zR → zM → Prop} {M : zM} {pc : Nat} {lv : List (Nat × Value)} {st : List Value} {x : Int32} {off : Int} {tgt : Nat} (hd : decode y.2.1 pc = .ok (.ifCond .ge off, 3)) (ht : (pc : Int) + off = (tgt : Int)) (kt : 0 ≤ x → zG g d y post M tgt lv st) (kf : ¬ 0 ≤ x → zG g d y post M (pc + 3) lv st) : zG g d y post M pc lv (.int x :: st) := by
  intro p e R s m args below meth c Q H locs ls hc hM hS hl hz
  exact lv_if_ge hc.1.1 hc.1.2.1 hd ht (fun q => kt q p e R s m args below meth c Q H locs ls hc hM hS hl hz) (fun q => kf q p e R s m args below meth c Q H locs ls hc hM hS hl hz)
theorem zi_icmp_ge {g : zg} {d : Nat} {y : zm} {post : zR → zM → Prop} {M : zM} {pc : Nat} {lv : List (Nat × Value)} {st : List Value} {x z : Int32} {off : Int} {tgt : Nat} (hd : decode y.2.1 pc = .ok (.if_icmp .ge off, 3)) (ht : (pc : Int) + off = (tgt : Int)) (kt : z ≤ x → zG g d y post M tgt lv st) (kf : ¬ z ≤ x → zG g d y post M (pc + 3) lv st) : zG g d y post M pc lv (.int z :: .int x :: st) := by
  intro p e R s m args below meth c Q H locs ls hc hM hS hl hz
  exact lv_icmp_ge hc.1.1 hc.1.2.1 hd ht (fun q => kt q p e R s m args below meth c Q H locs ls hc hM hS hl hz) (fun q => kf q p e R s m args below meth c Q H locs ls hc hM hS hl hz)
theorem zi_if_gt {g : zg} {d : Nat} {y : zm} {post : zR → zM → Prop} {M : zM} {pc : Nat} {lv : List (Nat × Value)} {st : List Value} {x : Int32} {off : Int} {tgt : Nat} (hd : decode y.2.1 pc = .ok (.ifCond .gt off, 3)) (ht : (pc : Int) + off = (tgt : Int)) (kt : 0 < x → zG g d y post M tgt lv st) (kf : ¬ 0 < x → zG g d y post M (pc + 3) lv st) : zG g d y post M pc lv (.int x :: st) := by
  intro p e R s m args below meth c Q H locs ls hc hM hS hl hz
  exact lv_if_gt hc.1.1 hc.1.2.1 hd ht (fun q => kt q p e R s m args below meth c Q H locs ls hc hM hS hl hz) (fun q => kf q p e R s m args below meth c Q H locs ls hc hM hS hl hz)
theorem zi_icmp_gt {g : zg} {d : Nat} {y : zm} {post : zR → zM → Prop} {M : zM} {pc : Nat} {lv : List (Nat × Value)} {st : List Value} {x z : Int32} {off : Int} {tgt : Nat} (hd : decode y.2.1 pc = .ok (.if_icmp .gt off, 3)) (ht : (pc : Int) + off = (tgt : Int)) (kt : z < x → zG g d y post M tgt lv st) (kf : ¬ z < x → zG g d y post M (pc + 3) lv st) : zG g d y post M pc lv (.int z :: .int x :: st) := by
  intro p e R s m args below meth c Q H locs ls hc hM hS hl hz
  exact lv_icmp_gt hc.1.1 hc.1.2.1 hd ht (fun q => kt q p e R s m args below meth c Q H locs ls hc hM hS hl hz) (fun q => kf q p e R s m args below meth c Q H locs ls hc hM hS hl hz)
theorem zi_if_le {g : zg} {d : Nat} {y : zm} {post : zR → zM → Prop} {M : zM} {pc : Nat} {lv : List (Nat × Value)} {st : List Value} {x : Int32} {off : Int} {tgt : Nat} (hd : decode y.2.1 pc = .ok (.ifCond .le off, 3)) (ht : (pc : Int) + off = (tgt : Int)) (kt : x ≤ 0 → zG g d y post M tgt lv st) (kf : ¬ x ≤ 0 → zG g d y post M (pc + 3) lv st) : zG g d y post M pc lv (.int x :: st) := by
  intro p e R s m args below meth c Q H locs ls hc hM hS hl hz
  exact lv_if_le hc.1.1 hc.1.2.1 hd ht (fun q => kt q p e R s m args below meth c Q H locs ls hc hM hS hl hz) (fun q => kf q p e R s m args below meth c Q H locs ls hc hM hS hl hz)
theorem zi_icmp_le {g : zg} {d : Nat} {y : zm} {post : zR → zM → Prop} {M : zM} {pc : Nat} {lv : List (Nat × Value)} {st : List Value} {x z : Int32} {off : Int} {tgt : Nat} (hd : decode y.2.1 pc = .ok (.if_icmp .le off, 3)) (ht : (pc : Int) + off = (tgt : Int)) (kt : x ≤ z → zG g d y post M tgt lv st) (kf : ¬ x ≤ z → zG g d y post M (pc + 3) lv st) : zG g d y post M pc lv (.int z :: .int x :: st) := by
  intro p e R s m args below meth c Q H locs ls hc hM hS hl hz
  exact lv_icmp_le hc.1.1 hc.1.2.1 hd ht (fun q => kt q p e R s m args below meth c Q H locs ls hc hM hS hl hz) (fun q => kf q p e R s m args below meth c Q H locs ls hc hM hS hl hz)
theorem zi_acmp_eq {g : zg} {d : Nat} {y : zm} {post : zR → zM → Prop} {M : zM} {pc : Nat} {lv : List (Nat × Value)} {st : List Value} {x z : Option Nat} {off : Int} {tgt : Nat} (hd : decode y.2.1 pc = .ok (.if_acmp .eq off, 3)) (ht : (pc : Int) + off = (tgt : Int)) (kt : x = z → zG g d y post M tgt lv st) (kf : ¬ x = z → zG g d y post M (pc + 3) lv st) : zG g d y post M pc lv (va_rf z :: va_rf x :: st) := by
  intro p e R s m args below meth c Q H locs ls hc hM hS hl hz
  exact lv_acmp_eq hc.1.1 hc.1.2.1 hd ht (fun q => kt q p e R s m args below meth c Q H locs ls hc hM hS hl hz) (fun q => kf q p e R s m args below meth c Q H locs ls hc hM hS hl hz)
theorem zi_acmp_ne {g : zg} {d : Nat} {y : zm} {post : zR → zM → Prop} {M : zM} {pc : Nat} {lv : List (Nat × Value)} {st : List Value} {x z : Option Nat} {off : Int} {tgt : Nat} (hd : decode y.2.1 pc = .ok (.if_acmp .ne off, 3)) (ht : (pc : Int) + off = (tgt : Int)) (kt : ¬ x = z → zG g d y post M tgt lv st) (kf : x = z → zG g d y post M (pc + 3) lv st) : zG g d y post M pc lv (va_rf z :: va_rf x :: st) := by
  intro p e R s m args below meth c Q H locs ls hc hM hS hl hz
  exact lv_acmp_ne hc.1.1 hc.1.2.1 hd ht (fun q => kt q p e R s m args below meth c Q H locs ls hc hM hS hl hz) (fun q => kf q p e R s m args below meth c Q H locs ls hc hM hS hl hz)
theorem zi_goto {g : zg} {d : Nat} {y : zm} {post : zR → zM → Prop} {M : zM} {pc : Nat} {lv : List (Nat × Value)} {st : List Value} {off : Int} {tgt : Nat} (hd : decode y.2.1 pc = .ok (.goto off, 3)) (ht : (pc : Int) + off = (tgt : Int)) (k : zG g d y post M tgt lv st) : zG g d y post M pc lv st := by
  intro p e R s m args below meth c Q H locs ls hc hM hS hl hz
  exact lv_goto hc.1.1 hc.1.2.1 hd ht (k p e R s m args below meth c Q H locs ls hc hM hS hl hz)
theorem zi_ifnull {g : zg} {d : Nat} {y : zm} {post : zR → zM → Prop} {M : zM} {pc : Nat} {lv : List (Nat × Value)} {st : List Value} {x : Option Nat} {off : Int} {tgt : Nat} (hd : decode y.2.1 pc = .ok (.ifnull off, 3)) (ht : (pc : Int) + off = (tgt : Int)) (kt : x = none → zG g d y post M tgt lv st) (kf : ∀ a, x = some a → zG g d y post M (pc + 3) lv st) : zG g d y post M pc lv (va_rf x :: st) := by
  intro p e R s m args below meth c Q H locs ls hc hM hS hl hz
  cases x with
  | none => exact lv_ifnullN hc.1.1 hc.1.2.1 hd ht (kt rfl p e R s m args below meth c Q H locs ls hc hM hS hl hz)
  | some a => exact lv_ifnull hc.1.1 hc.1.2.1 hd (kf a rfl p e R s m args below meth c Q H locs ls hc hM hS hl hz)
theorem zi_ifnonnull {g : zg} {d : Nat} {y : zm} {post : zR → zM → Prop} {M : zM} {pc : Nat} {lv : List (Nat × Value)} {st : List Value} {x : Option Nat} {off : Int} {tgt : Nat} (hd : decode y.2.1 pc = .ok (.ifnonnull off, 3)) (ht : (pc : Int) + off = (tgt : Int)) (kt : ∀ a, x = some a → zG g d y post M tgt lv st) (kf : x = none → zG g d y post M (pc + 3) lv st) : zG g d y post M pc lv (va_rf x :: st) := by
  intro p e R s m args below meth c Q H locs ls hc hM hS hl hz
  cases x with
  | none => exact lv_ifnonnullN hc.1.1 hc.1.2.1 hd (kf rfl p e R s m args below meth c Q H locs ls hc hM hS hl hz)
  | some a => exact lv_ifnonnull hc.1.1 hc.1.2.1 hd ht (kt a rfl p e R s m args below meth c Q H locs ls hc hM hS hl hz)
theorem zi_lookup {g : zg} {d : Nat} {y : zm} {post : zR → zM → Prop} {M : zM} {pc : Nat} {lv : List (Nat × Value)} {st : List Value} {dflt : Int} {ps : Array (Int × Int)} {len : Nat} {x : Int32} {off : Int} {tgt : Nat} (hd : decode y.2.1 pc = .ok (.lookupswitch dflt ps, len)) (hp : (ps.toList.zip (ps.toList.drop 1)).all (fun (a, next) => a.1 < next.1) = true) (ho : Op.lookupswitch.offset ps.toList dflt x.toInt = off) (ht : (pc : Int) + off = (tgt : Int)) (k : zG g d y post M tgt lv st) : zG g d y post M pc lv (.int x :: st) := by
  intro p e R s m args below meth c Q H locs ls hc hM hS hl hz
  exact lv_lookup hc.1.1 hc.1.2.1 hd hp ho ht (k p e R s m args below meth c Q H locs ls hc hM hS hl hz)
theorem zi_tableOut {g : zg} {d : Nat} {y : zm} {post : zR → zM → Prop} {M : zM} {pc : Nat} {lv : List (Nat × Value)} {st : List Value} {dflt lo hi : Int} {offs : Array Int} {len : Nat} {x : Int32} {tgt : Nat} (hd : decode y.2.1 pc = .ok (.tableswitch dflt lo hi offs, len)) (h : x.toInt < lo ∨ hi < x.toInt) (ht : (pc : Int) + dflt = (tgt : Int)) (k : zG g d y post M tgt lv st) : zG g d y post M pc lv (.int x :: st) := by
  intro p e R s m args below meth c Q H locs ls hc hM hS hl hz
  exact lv_tableOut hc.1.1 hc.1.2.1 hd h ht (k p e R s m args below meth c Q H locs ls hc hM hS hl hz)
theorem zi_tableIn {g : zg} {d : Nat} {y : zm} {post : zR → zM → Prop} {M : zM} {pc : Nat} {lv : List (Nat × Value)} {st : List Value} {dflt lo hi : Int} {offs : Array Int} {len : Nat} {x : Int32} {off : Int} {tgt : Nat} (hd : decode y.2.1 pc = .ok (.tableswitch dflt lo hi offs, len)) (h1 : ¬ x.toInt < lo) (h2 : ¬ hi < x.toInt) (ho : offs[(x.toInt - lo).toNat]? = some off) (ht : (pc : Int) + off = (tgt : Int)) (k : zG g d y post M tgt lv st) : zG g d y post M pc lv (.int x :: st) := by
  intro p e R s m args below meth c Q H locs ls hc hM hS hl hz
  exact lv_tableIn hc.1.1 hc.1.2.1 hd h1 h2 ho ht (k p e R s m args below meth c Q H locs ls hc hM hS hl hz)
