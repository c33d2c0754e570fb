/-! ROWS: an instruction, a row (written by wip/gen/rows.py) -/
theorem j_iadd {R : Type} {mt : Mt} {wr : R → Option Value} {pc : Nat} {lv : List (Nat × Value)} {st : List Value} {M : Mem} {F : Option (R × Mem)} {x y : Int32} (hd : decode mt.2.1 pc = .ok (.iadd, 1)) (K : J mt wr (pc + 1) lv (.int (x + y) :: st) M F) : J mt wr pc lv (.int y :: .int x :: st) M F := by
  intro r M' hF p l e s m args below meth c D ad dA A mc ms hp H locs ls hP hD hS hl
  obtain ⟨hx, hb, hr, hml, hown, hts, hlk, hC⟩ := id hp
  exact lv_iadd hx hb hd (K r M' hF p l e s m args below meth c D ad dA A mc ms hp H locs ls hP hD hS hl)
theorem j_isub {R : Type} {mt : Mt} {wr : R → Option Value} {pc : Nat} {lv : List (Nat × Value)} {st : List Value} {M : Mem} {F : Option (R × Mem)} {x y : Int32} (hd : decode mt.2.1 pc = .ok (.isub, 1)) (K : J mt wr (pc + 1) lv (.int (x - y) :: st) M F) : J mt wr pc lv (.int y :: .int x :: st) M F := by
  intro r M' hF p l e s m args below meth c D ad dA A mc ms hp H locs ls hP hD hS hl
  obtain ⟨hx, hb, hr, hml, hown, hts, hlk, hC⟩ := id hp
  exact lv_isub hx hb hd (K r M' hF p l e s m args below meth c D ad dA A mc ms hp H locs ls hP hD hS hl)
theorem j_imul {R : Type} {mt : Mt} {wr : R → Option Value} {pc : Nat} {lv : List (Nat × Value)} {st : List Value} {M : Mem} {F : Option (R × Mem)} {x y : Int32} (hd : decode mt.2.1 pc = .ok (.imul, 1)) (K : J mt wr (pc + 1) lv (.int (x * y) :: st) M F) : J mt wr pc lv (.int y :: .int x :: st) M F := by
  intro r M' hF p l e s m args below meth c D ad dA A mc ms hp H locs ls hP hD hS hl
  obtain ⟨hx, hb, hr, hml, hown, hts, hlk, hC⟩ := id hp
  exact lv_imul hx hb hd (K r M' hF p l e s m args below meth c D ad dA A mc ms hp H locs ls hP hD hS hl)
theorem j_iand {R : Type} {mt : Mt} {wr : R → Option Value} {pc : Nat} {lv : List (Nat × Value)} {st : List Value} {M : Mem} {F : Option (R × Mem)} {x y : Int32} (hd : decode mt.2.1 pc = .ok (.iand, 1)) (K : J mt wr (pc + 1) lv (.int (x &&& y) :: st) M F) : J mt wr pc lv (.int y :: .int x :: st) M F := by
  intro r M' hF p l e s m args below meth c D ad dA A mc ms hp H locs ls hP hD hS hl
  obtain ⟨hx, hb, hr, hml, hown, hts, hlk, hC⟩ := id hp
  exact lv_iand hx hb hd (K r M' hF p l e s m args below meth c D ad dA A mc ms hp H locs ls hP hD hS hl)
theorem j_ior {R : Type} {mt : Mt} {wr : R → Option Value} {pc : Nat} {lv : List (Nat × Value)} {st : List Value} {M : Mem} {F : Option (R × Mem)} {x y : Int32} (hd : decode mt.2.1 pc = .ok (.ior, 1)) (K : J mt wr (pc + 1) lv (.int (x ||| y) :: st) M F) : J mt wr pc lv (.int y :: .int x :: st) M F := by
  intro r M' hF p l e s m args below meth c D ad dA A mc ms hp H locs ls hP hD hS hl
  obtain ⟨hx, hb, hr, hml, hown, hts, hlk, hC⟩ := id hp
  exact lv_ior hx hb hd (K r M' hF p l e s m args below meth c D ad dA A mc ms hp H locs ls hP hD hS hl)
theorem j_ixor {R : Type} {mt : Mt} {wr : R → Option Value} {pc : Nat} {lv : List (Nat × Value)} {st : List Value} {M : Mem} {F : Option (R × Mem)} {x y : Int32} (hd : decode mt.2.1 pc = .ok (.ixor, 1)) (K : J mt wr (pc + 1) lv (.int (x ^^^ y) :: st) M F) : J mt wr pc lv (.int y :: .int x :: st) M F := by
  intro r M' hF p l e s m args below meth c D ad dA A mc ms hp H locs ls hP hD hS hl
  obtain ⟨hx, hb, hr, hml, hown, hts, hlk, hC⟩ := id hp
  exact lv_ixor hx hb hd (K r M' hF p l e s m args below meth c D ad dA A mc ms hp H locs ls hP hD hS hl)
theorem j_ishl {R : Type} {mt : Mt} {wr : R → Option Value} {pc : Nat} {lv : List (Nat × Value)} {st : List Value} {M : Mem} {F : Option (R × Mem)} {x y : Int32} (hd : decode mt.2.1 pc = .ok (.ishl, 1)) (K : J mt wr (pc + 1) lv (.int (x <<< (y &&& 31)) :: st) M F) : J mt wr pc lv (.int y :: .int x :: st) M F := by
  intro r M' hF p l e s m args below meth c D ad dA A mc ms hp H locs ls hP hD hS hl
  obtain ⟨hx, hb, hr, hml, hown, hts, hlk, hC⟩ := id hp
  exact lv_ishl hx hb hd (K r M' hF p l e s m args below meth c D ad dA A mc ms hp H locs ls hP hD hS hl)
theorem j_ishr {R : Type} {mt : Mt} {wr : R → Option Value} {pc : Nat} {lv : List (Nat × Value)} {st : List Value} {M : Mem} {F : Option (R × Mem)} {x y : Int32} (hd : decode mt.2.1 pc = .ok (.ishr, 1)) (K : J mt wr (pc + 1) lv (.int (x >>> (y &&& 31)) :: st) M F) : J mt wr pc lv (.int y :: .int x :: st) M F := by
  intro r M' hF p l e s m args below meth c D ad dA A mc ms hp H locs ls hP hD hS hl
  obtain ⟨hx, hb, hr, hml, hown, hts, hlk, hC⟩ := id hp
  exact lv_ishr hx hb hd (K r M' hF p l e s m args below meth c D ad dA A mc ms hp H locs ls hP hD hS hl)
theorem j_iushr {R : Type} {mt : Mt} {wr : R → Option Value} {pc : Nat} {lv : List (Nat × Value)} {st : List Value} {M : Mem} {F : Option (R × Mem)} {x y : Int32} (hd : decode mt.2.1 pc = .ok (.iushr, 1)) (K : J mt wr (pc + 1) lv (.int ((x.toUInt32 >>> (y.toUInt32 &&& Int32.toUInt32 31)).toInt32) :: st) M F) : J mt wr pc lv (.int y :: .int x :: st) M F := by
  intro r M' hF p l e s m args below meth c D ad dA A mc ms hp H locs ls hP hD hS hl
  obtain ⟨hx, hb, hr, hml, hown, hts, hlk, hC⟩ := id hp
  exact lv_iushr hx hb hd rfl (K r M' hF p l e s m args below meth c D ad dA A mc ms hp H locs ls hP hD hS hl)
theorem j_ladd {R : Type} {mt : Mt} {wr : R → Option Value} {pc : Nat} {lv : List (Nat × Value)} {st : List Value} {M : Mem} {F : Option (R × Mem)} {x y : Int64} (hd : decode mt.2.1 pc = .ok (.ladd, 1)) (K : J mt wr (pc + 1) lv (.long (x + y) :: st) M F) : J mt wr pc lv (.long y :: .long x :: st) M F := by
  intro r M' hF p l e s m args below meth c D ad dA A mc ms hp H locs ls hP hD hS hl
  obtain ⟨hx, hb, hr, hml, hown, hts, hlk, hC⟩ := id hp
  exact lv_ladd hx hb hd (K r M' hF p l e s m args below meth c D ad dA A mc ms hp H locs ls hP hD hS hl)
theorem j_lsub {R : Type} {mt : Mt} {wr : R → Option Value} {pc : Nat} {lv : List (Nat × Value)} {st : List Value} {M : Mem} {F : Option (R × Mem)} {x y : Int64} (hd : decode mt.2.1 pc = .ok (.lsub, 1)) (K : J mt wr (pc + 1) lv (.long (x - y) :: st) M F) : J mt wr pc lv (.long y :: .long x :: st) M F := by
  intro r M' hF p l e s m args below meth c D ad dA A mc ms hp H locs ls hP hD hS hl
  obtain ⟨hx, hb, hr, hml, hown, hts, hlk, hC⟩ := id hp
  exact lv_lsub hx hb hd (K r M' hF p l e s m args below meth c D ad dA A mc ms hp H locs ls hP hD hS hl)
theorem j_lmul {R : Type} {mt : Mt} {wr : R → Option Value} {pc : Nat} {lv : List (Nat × Value)} {st : List Value} {M : Mem} {F : Option (R × Mem)} {x y : Int64} (hd : decode mt.2.1 pc = .ok (.lmul, 1)) (K : J mt wr (pc + 1) lv (.long (x * y) :: st) M F) : J mt wr pc lv (.long y :: .long x :: st) M F := by
  intro r M' hF p l e s m args below meth c D ad dA A mc ms hp H locs ls hP hD hS hl
  obtain ⟨hx, hb, hr, hml, hown, hts, hlk, hC⟩ := id hp
  exact lv_lmul hx hb hd (K r M' hF p l e s m args below meth c D ad dA A mc ms hp H locs ls hP hD hS hl)
theorem j_land {R : Type} {mt : Mt} {wr : R → Option Value} {pc : Nat} {lv : List (Nat × Value)} {st : List Value} {M : Mem} {F : Option (R × Mem)} {x y : Int64} (hd : decode mt.2.1 pc = .ok (.land, 1)) (K : J mt wr (pc + 1) lv (.long (x &&& y) :: st) M F) : J mt wr pc lv (.long y :: .long x :: st) M F := by
  intro r M' hF p l e s m args below meth c D ad dA A mc ms hp H locs ls hP hD hS hl
  obtain ⟨hx, hb, hr, hml, hown, hts, hlk, hC⟩ := id hp
  exact lv_land hx hb hd (K r M' hF p l e s m args below meth c D ad dA A mc ms hp H locs ls hP hD hS hl)
theorem j_lor {R : Type} {mt : Mt} {wr : R → Option Value} {pc : Nat} {lv : List (Nat × Value)} {st : List Value} {M : Mem} {F : Option (R × Mem)} {x y : Int64} (hd : decode mt.2.1 pc = .ok (.lor, 1)) (K : J mt wr (pc + 1) lv (.long (x ||| y) :: st) M F) : J mt wr pc lv (.long y :: .long x :: st) M F := by
  intro r M' hF p l e s m args below meth c D ad dA A mc ms hp H locs ls hP hD hS hl
  obtain ⟨hx, hb, hr, hml, hown, hts, hlk, hC⟩ := id hp
  exact lv_lor hx hb hd (K r M' hF p l e s m args below meth c D ad dA A mc ms hp H locs ls hP hD hS hl)
theorem j_lxor {R : Type} {mt : Mt} {wr : R → Option Value} {pc : Nat} {lv : List (Nat × Value)} {st : List Value} {M : Mem} {F : Option (R × Mem)} {x y : Int64} (hd : decode mt.2.1 pc = .ok (.lxor, 1)) (K : J mt wr (pc + 1) lv (.long (x ^^^ y) :: st) M F) : J mt wr pc lv (.long y :: .long x :: st) M F := by
  intro r M' hF p l e s m args below meth c D ad dA A mc ms hp H locs ls hP hD hS hl
  obtain ⟨hx, hb, hr, hml, hown, hts, hlk, hC⟩ := id hp
  exact lv_lxor hx hb hd (K r M' hF p l e s m args below meth c D ad dA A mc ms hp H locs ls hP hD hS hl)
theorem j_lshl {R : Type} {mt : Mt} {wr : R → Option Value} {pc : Nat} {lv : List (Nat × Value)} {st : List Value} {M : Mem} {F : Option (R × Mem)} {x : Int64} {y : Int32} (hd : decode mt.2.1 pc = .ok (.lshl, 1)) (K : J mt wr (pc + 1) lv (.long (x <<< (y.toInt64 &&& 63)) :: st) M F) : J mt wr pc lv (.int y :: .long x :: st) M F := by
  intro r M' hF p l e s m args below meth c D ad dA A mc ms hp H locs ls hP hD hS hl
  obtain ⟨hx, hb, hr, hml, hown, hts, hlk, hC⟩ := id hp
  exact lv_lshl hx hb hd rfl (K r M' hF p l e s m args below meth c D ad dA A mc ms hp H locs ls hP hD hS hl)
theorem j_lshr {R : Type} {mt : Mt} {wr : R → Option Value} {pc : Nat} {lv : List (Nat × Value)} {st : List Value} {M : Mem} {F : Option (R × Mem)} {x : Int64} {y : Int32} (hd : decode mt.2.1 pc = .ok (.lshr, 1)) (K : J mt wr (pc + 1) lv (.long (x >>> (y.toInt64 &&& 63)) :: st) M F) : J mt wr pc lv (.int y :: .long x :: st) M F := by
  intro r M' hF p l e s m args below meth c D ad dA A mc ms hp H locs ls hP hD hS hl
  obtain ⟨hx, hb, hr, hml, hown, hts, hlk, hC⟩ := id hp
  exact lv_lshr hx hb hd rfl (K r M' hF p l e s m args below meth c D ad dA A mc ms hp H locs ls hP hD hS hl)
theorem j_lushr {R : Type} {mt : Mt} {wr : R → Option Value} {pc : Nat} {lv : List (Nat × Value)} {st : List Value} {M : Mem} {F : Option (R × Mem)} {x : Int64} {y : Int32} (hd : decode mt.2.1 pc = .ok (.lushr, 1)) (K : J mt wr (pc + 1) lv (.long ((x.toUInt64 >>> (y.toInt64.toUInt64 &&& Int64.toUInt64 63)).toInt64) :: st) M F) : J mt wr pc lv (.int y :: .long x :: st) M F := by
  intro r M' hF p l e s m args below meth c D ad dA A mc ms hp H locs ls hP hD hS hl
  obtain ⟨hx, hb, hr, hml, hown, hts, hlk, hC⟩ := id hp
  exact lv_lushr hx hb hd rfl (K r M' hF p l e s m args below meth c D ad dA A mc ms hp H locs ls hP hD hS hl)
theorem j_lcmp {R : Type} {mt : Mt} {wr : R → Option Value} {pc : Nat} {lv : List (Nat × Value)} {st : List Value} {M : Mem} {F : Option (R × Mem)} {x y : Int64} (hd : decode mt.2.1 pc = .ok (.lcmp, 1)) (K : J mt wr (pc + 1) lv (.int (lg_cmp x y) :: st) M F) : J mt wr pc lv (.long y :: .long x :: st) M F := by
  intro r M' hF p l e s m args below meth c D ad dA A mc ms hp H locs ls hP hD hS hl
  obtain ⟨hx, hb, hr, hml, hown, hts, hlk, hC⟩ := id hp
  exact W.lcmp hx hb hd (K r M' hF p l e s m args below meth c D ad dA A mc ms hp H locs ls hP hD hS hl)
theorem j_i2l {R : Type} {mt : Mt} {wr : R → Option Value} {pc : Nat} {lv : List (Nat × Value)} {st : List Value} {M : Mem} {F : Option (R × Mem)} {x : Int32} (hd : decode mt.2.1 pc = .ok (.i2l, 1)) (K : J mt wr (pc + 1) lv (.long x.toInt64 :: st) M F) : J mt wr pc lv (.int x :: st) M F := by
  intro r M' hF p l e s m args below meth c D ad dA A mc ms hp H locs ls hP hD hS hl
  obtain ⟨hx, hb, hr, hml, hown, hts, hlk, hC⟩ := id hp
  exact lv_i2l hx hb hd rfl (K r M' hF p l e s m args below meth c D ad dA A mc ms hp H locs ls hP hD hS hl)
theorem j_l2i {R : Type} {mt : Mt} {wr : R → Option Value} {pc : Nat} {lv : List (Nat × Value)} {st : List Value} {M : Mem} {F : Option (R × Mem)} {x : Int64} (hd : decode mt.2.1 pc = .ok (.l2i, 1)) (K : J mt wr (pc + 1) lv (.int x.toInt32 :: st) M F) : J mt wr pc lv (.long x :: st) M F := by
  intro r M' hF p l e s m args below meth c D ad dA A mc ms hp H locs ls hP hD hS hl
  obtain ⟨hx, hb, hr, hml, hown, hts, hlk, hC⟩ := id hp
  exact lv_l2i hx hb hd rfl (K r M' hF p l e s m args below meth c D ad dA A mc ms hp H locs ls hP hD hS hl)
theorem j_i2b {R : Type} {mt : Mt} {wr : R → Option Value} {pc : Nat} {lv : List (Nat × Value)} {st : List Value} {M : Mem} {F : Option (R × Mem)} {x : Int32} (hd : decode mt.2.1 pc = .ok (.i2b, 1)) (K : J mt wr (pc + 1) lv (.int x.toInt8.toInt32 :: st) M F) : J mt wr pc lv (.int x :: st) M F := by
  intro r M' hF p l e s m args below meth c D ad dA A mc ms hp H locs ls hP hD hS hl
  obtain ⟨hx, hb, hr, hml, hown, hts, hlk, hC⟩ := id hp
  exact lv_i2b hx hb hd rfl (K r M' hF p l e s m args below meth c D ad dA A mc ms hp H locs ls hP hD hS hl)
theorem j_i2s {R : Type} {mt : Mt} {wr : R → Option Value} {pc : Nat} {lv : List (Nat × Value)} {st : List Value} {M : Mem} {F : Option (R × Mem)} {x : Int32} (hd : decode mt.2.1 pc = .ok (.i2s, 1)) (K : J mt wr (pc + 1) lv (.int x.toInt16.toInt32 :: st) M F) : J mt wr pc lv (.int x :: st) M F := by
  intro r M' hF p l e s m args below meth c D ad dA A mc ms hp H locs ls hP hD hS hl
  obtain ⟨hx, hb, hr, hml, hown, hts, hlk, hC⟩ := id hp
  exact lv_i2s hx hb hd rfl (K r M' hF p l e s m args below meth c D ad dA A mc ms hp H locs ls hP hD hS hl)
theorem j_i2c {R : Type} {mt : Mt} {wr : R → Option Value} {pc : Nat} {lv : List (Nat × Value)} {st : List Value} {M : Mem} {F : Option (R × Mem)} {x : Int32} (hd : decode mt.2.1 pc = .ok (.i2c, 1)) (K : J mt wr (pc + 1) lv (.int (x.toUInt32 % 65536).toInt32 :: st) M F) : J mt wr pc lv (.int x :: st) M F := by
  intro r M' hF p l e s m args below meth c D ad dA A mc ms hp H locs ls hP hD hS hl
  obtain ⟨hx, hb, hr, hml, hown, hts, hlk, hC⟩ := id hp
  exact lv_i2c hx hb hd rfl (K r M' hF p l e s m args below meth c D ad dA A mc ms hp H locs ls hP hD hS hl)
theorem j_dup {R : Type} {mt : Mt} {wr : R → Option Value} {pc : Nat} {lv : List (Nat × Value)} {st : List Value} {M : Mem} {F : Option (R × Mem)} {v : Value} (hd : decode mt.2.1 pc = .ok (.dup, 1)) (hv : v.category = 1) (K : J mt wr (pc + 1) lv (v :: v :: st) M F) : J mt wr pc lv (v :: st) M F := by
  intro r M' hF p l e s m args below meth c D ad dA A mc ms hp H locs ls hP hD hS hl
  obtain ⟨hx, hb, hr, hml, hown, hts, hlk, hC⟩ := id hp
  exact lv_dup hx hb hd ((rv_cat ad v).trans hv) (K r M' hF p l e s m args below meth c D ad dA A mc ms hp H locs ls hP hD hS hl)
theorem j_pop {R : Type} {mt : Mt} {wr : R → Option Value} {pc : Nat} {lv : List (Nat × Value)} {st : List Value} {M : Mem} {F : Option (R × Mem)} {v : Value} (hd : decode mt.2.1 pc = .ok (.pop, 1)) (hv : v.category = 1) (K : J mt wr (pc + 1) lv (st) M F) : J mt wr pc lv (v :: st) M F := by
  intro r M' hF p l e s m args below meth c D ad dA A mc ms hp H locs ls hP hD hS hl
  obtain ⟨hx, hb, hr, hml, hown, hts, hlk, hC⟩ := id hp
  exact lv_pop hx hb hd ((rv_cat ad v).trans hv) (K r M' hF p l e s m args below meth c D ad dA A mc ms hp H locs ls hP hD hS hl)
theorem j_iconst {R : Type} {mt : Mt} {wr : R → Option Value} {pc : Nat} {lv : List (Nat × Value)} {st : List Value} {M : Mem} {F : Option (R × Mem)} {n : Int} {v : Int32} (hd : decode mt.2.1 pc = .ok (.iconst n, 1)) (hv : Int32.ofInt n = v) (K : J mt wr (pc + 1) lv (.int v :: st) M F) : J mt wr pc lv (st) M F := by
  intro r M' hF p l e s m args below meth c D ad dA A mc ms hp H locs ls hP hD hS hl
  obtain ⟨hx, hb, hr, hml, hown, hts, hlk, hC⟩ := id hp
  exact lv_iconst hx hb hd hv (K r M' hF p l e s m args below meth c D ad dA A mc ms hp H locs ls hP hD hS hl)
theorem j_bipush {R : Type} {mt : Mt} {wr : R → Option Value} {pc : Nat} {lv : List (Nat × Value)} {st : List Value} {M : Mem} {F : Option (R × Mem)} {n : Int} {v : Int32} (hd : decode mt.2.1 pc = .ok (.bipush n, 2)) (hv : (Int8.ofInt n).toInt32 = v) (K : J mt wr (pc + 2) lv (.int v :: st) M F) : J mt wr pc lv (st) M F := by
  intro r M' hF p l e s m args below meth c D ad dA A mc ms hp H locs ls hP hD hS hl
  obtain ⟨hx, hb, hr, hml, hown, hts, hlk, hC⟩ := id hp
  exact lv_bipush hx hb hd hv (K r M' hF p l e s m args below meth c D ad dA A mc ms hp H locs ls hP hD hS hl)
theorem j_sipush {R : Type} {mt : Mt} {wr : R → Option Value} {pc : Nat} {lv : List (Nat × Value)} {st : List Value} {M : Mem} {F : Option (R × Mem)} {n : Int} {v : Int32} (hd : decode mt.2.1 pc = .ok (.sipush n, 3)) (hv : (Int16.ofInt n).toInt32 = v) (K : J mt wr (pc + 3) lv (.int v :: st) M F) : J mt wr pc lv (st) M F := by
  intro r M' hF p l e s m args below meth c D ad dA A mc ms hp H locs ls hP hD hS hl
  obtain ⟨hx, hb, hr, hml, hown, hts, hlk, hC⟩ := id hp
  exact lv_sipush hx hb hd hv (K r M' hF p l e s m args below meth c D ad dA A mc ms hp H locs ls hP hD hS hl)
theorem j_lconst {R : Type} {mt : Mt} {wr : R → Option Value} {pc : Nat} {lv : List (Nat × Value)} {st : List Value} {M : Mem} {F : Option (R × Mem)} {n : Fin 2} {v : Int64} (hd : decode mt.2.1 pc = .ok (.lconst n, 1)) (hv : Int64.ofNat (n : Nat) = v) (K : J mt wr (pc + 1) lv (.long v :: st) M F) : J mt wr pc lv (st) M F := by
  intro r M' hF p l e s m args below meth c D ad dA A mc ms hp H locs ls hP hD hS hl
  obtain ⟨hx, hb, hr, hml, hown, hts, hlk, hC⟩ := id hp
  exact lv_lconst hx hb hd hv (K r M' hF p l e s m args below meth c D ad dA A mc ms hp H locs ls hP hD hS hl)
theorem j_idiv {R : Type} {mt : Mt} {wr : R → Option Value} {pc : Nat} {lv : List (Nat × Value)} {st : List Value} {M : Mem} {F : Option (R × Mem)} {x y : Int32} (hd : decode mt.2.1 pc = .ok (.idiv, 1)) (K : ¬ y = 0 → J mt wr (pc + 1) lv (.int (x / y) :: st) M F) : J mt wr pc lv (.int y :: .int x :: st) M (if y = 0 then none else F) := by
  intro r M' hF0
  by_cases hy : y = 0
  · rw [if_pos hy] at hF0; cases hF0
  rw [if_neg hy] at hF0
  revert hF0
  revert r M'
  show J _ _ _ _ _ _ _
  intro r M' hF p l e s m args below meth c D ad dA A mc ms hp H locs ls hP hD hS hl
  obtain ⟨hx, hb, hr, hml, hown, hts, hlk, hC⟩ := id hp
  exact lv_idiv hx hb hd hy ((K hy) r M' hF p l e s m args below meth c D ad dA A mc ms hp H locs ls hP hD hS hl)
theorem j_irem {R : Type} {mt : Mt} {wr : R → Option Value} {pc : Nat} {lv : List (Nat × Value)} {st : List Value} {M : Mem} {F : Option (R × Mem)} {x y : Int32} (hd : decode mt.2.1 pc = .ok (.irem, 1)) (K : ¬ y = 0 → J mt wr (pc + 1) lv (.int (x - x / y * y) :: st) M F) : J mt wr pc lv (.int y :: .int x :: st) M (if y = 0 then none else F) := by
  intro r M' hF0
  by_cases hy : y = 0
  · rw [if_pos hy] at hF0; cases hF0
  rw [if_neg hy] at hF0
  revert hF0
  revert r M'
  show J _ _ _ _ _ _ _
  intro r M' hF p l e s m args below meth c D ad dA A mc ms hp H locs ls hP hD hS hl
  obtain ⟨hx, hb, hr, hml, hown, hts, hlk, hC⟩ := id hp
  exact lv_irem hx hb hd hy ((K hy) r M' hF p l e s m args below meth c D ad dA A mc ms hp H locs ls hP hD hS hl)
theorem j_ldc {R : Type} {mt : Mt} {wr : R → Option Value} {pc : Nat} {lv : List (Nat × Value)} {st : List Value} {M : Mem} {F : Option (R × Mem)} {own : String} {i : Nat} {v : Int32} (hd : decode mt.2.1 pc = .ok (.ldc i, 2)) (hw : Cond.constant mt.1 i v ∈ tbl) (K : J mt wr (pc + 2) lv (.int v :: st) M F) : J mt wr pc lv st M F := by
  intro r M' hF p l e s m args below meth c D ad dA A mc ms hp H locs ls hP hD hS hl
  obtain ⟨hx, hb, hr, hml, hown, hts, hlk, hC⟩ := id hp
  exact lv_ldc hx hb hown (hts _ hw) hd (K r M' hF p l e s m args below meth c D ad dA A mc ms hp H locs ls hP hD hS hl)
theorem j_ldcw {R : Type} {mt : Mt} {wr : R → Option Value} {pc : Nat} {lv : List (Nat × Value)} {st : List Value} {M : Mem} {F : Option (R × Mem)} {own : String} {i : Nat} {v : Int32} (hd : decode mt.2.1 pc = .ok (.ldc_w i, 3)) (hw : Cond.constant mt.1 i v ∈ tbl) (K : J mt wr (pc + 3) lv (.int v :: st) M F) : J mt wr pc lv st M F := by
  intro r M' hF p l e s m args below meth c D ad dA A mc ms hp H locs ls hP hD hS hl
  obtain ⟨hx, hb, hr, hml, hown, hts, hlk, hC⟩ := id hp
  exact lv_ldcw hx hb hown (hts _ hw) hd (K r M' hF p l e s m args below meth c D ad dA A mc ms hp H locs ls hP hD hS hl)
theorem j_ldc2 {R : Type} {mt : Mt} {wr : R → Option Value} {pc : Nat} {lv : List (Nat × Value)} {st : List Value} {M : Mem} {F : Option (R × Mem)} {i : Nat} {v : Int64} (hd : decode mt.2.1 pc = .ok (.ldc2_w i, 3)) (hw : Cond.constantLong mt.1 i v ∈ tbl) (K : J mt wr (pc + 3) lv (.long v :: st) M F) : J mt wr pc lv st M F := by
  intro r M' hF p l e s m args below meth c D ad dA A mc ms hp H locs ls hP hD hS hl
  obtain ⟨hx, hb, hr, hml, hown, hts, hlk, hC⟩ := id hp
  exact lv_ldc2 hx hb hown (hts _ hw) hd (K r M' hF p l e s m args below meth c D ad dA A mc ms hp H locs ls hP hD hS hl)
theorem j_iload_n {R : Type} {mt : Mt} {wr : R → Option Value} {pc : Nat} {lv : List (Nat × Value)} {st : List Value} {M : Mem} {F : Option (R × Mem)} {k : Fin 4} {i q : Nat} {x : Int32} (hd : decode mt.2.1 pc = .ok (.iload_n k, 1)) (hi : (k : Nat) = i) (hq : lv[q]? = some (i, .int x)) (K : J mt wr (pc + 1) lv (.int x :: st) M F) : J mt wr pc lv st M F := by
  intro r M' hF p l e s m args below meth c D ad dA A mc ms hp H locs ls hP hD hS hl
  obtain ⟨hx, hb, hr, hml, hown, hts, hlk, hC⟩ := id hp
  exact lv_iload_n hx hb hd hi (lv_at hl q (lvp_get hq)) (K r M' hF p l e s m args below meth c D ad dA A mc ms hp H locs ls hP hD hS hl)
theorem j_iload {R : Type} {mt : Mt} {wr : R → Option Value} {pc : Nat} {lv : List (Nat × Value)} {st : List Value} {M : Mem} {F : Option (R × Mem)} {i q : Nat} {x : Int32} (hd : decode mt.2.1 pc = .ok (.iload i, 2)) (hq : lv[q]? = some (i, .int x)) (K : J mt wr (pc + 2) lv (.int x :: st) M F) : J mt wr pc lv st M F := by
  intro r M' hF p l e s m args below meth c D ad dA A mc ms hp H locs ls hP hD hS hl
  obtain ⟨hx, hb, hr, hml, hown, hts, hlk, hC⟩ := id hp
  exact lv_iload hx hb hd (lv_at hl q (lvp_get hq)) (K r M' hF p l e s m args below meth c D ad dA A mc ms hp H locs ls hP hD hS hl)
theorem j_lload_n {R : Type} {mt : Mt} {wr : R → Option Value} {pc : Nat} {lv : List (Nat × Value)} {st : List Value} {M : Mem} {F : Option (R × Mem)} {k : Fin 4} {i q : Nat} {x : Int64} (hd : decode mt.2.1 pc = .ok (.lload_n k, 1)) (hi : (k : Nat) = i) (hq : lv[q]? = some (i, .long x)) (K : J mt wr (pc + 1) lv (.long x :: st) M F) : J mt wr pc lv st M F := by
  intro r M' hF p l e s m args below meth c D ad dA A mc ms hp H locs ls hP hD hS hl
  obtain ⟨hx, hb, hr, hml, hown, hts, hlk, hC⟩ := id hp
  exact lv_lload_n hx hb hd hi (lv_at hl q (lvp_get hq)) (K r M' hF p l e s m args below meth c D ad dA A mc ms hp H locs ls hP hD hS hl)
theorem j_lload {R : Type} {mt : Mt} {wr : R → Option Value} {pc : Nat} {lv : List (Nat × Value)} {st : List Value} {M : Mem} {F : Option (R × Mem)} {i q : Nat} {x : Int64} (hd : decode mt.2.1 pc = .ok (.lload i, 2)) (hq : lv[q]? = some (i, .long x)) (K : J mt wr (pc + 2) lv (.long x :: st) M F) : J mt wr pc lv st M F := by
  intro r M' hF p l e s m args below meth c D ad dA A mc ms hp H locs ls hP hD hS hl
  obtain ⟨hx, hb, hr, hml, hown, hts, hlk, hC⟩ := id hp
  exact lv_lload hx hb hd (lv_at hl q (lvp_get hq)) (K r M' hF p l e s m args below meth c D ad dA A mc ms hp H locs ls hP hD hS hl)
theorem j_aload_n {R : Type} {mt : Mt} {wr : R → Option Value} {pc : Nat} {lv : List (Nat × Value)} {st : List Value} {M : Mem} {F : Option (R × Mem)} {k : Fin 4} {i q : Nat} {x : Nat} (hd : decode mt.2.1 pc = .ok (.aload_n k, 1)) (hi : (k : Nat) = i) (hq : lv[q]? = some (i, .ref x)) (K : J mt wr (pc + 1) lv (.ref x :: st) M F) : J mt wr pc lv st M F := by
  intro r M' hF p l e s m args below meth c D ad dA A mc ms hp H locs ls hP hD hS hl
  obtain ⟨hx, hb, hr, hml, hown, hts, hlk, hC⟩ := id hp
  exact lv_aload_n hx hb hd hi (lv_at hl q (lvp_get hq)) (K r M' hF p l e s m args below meth c D ad dA A mc ms hp H locs ls hP hD hS hl)
theorem j_aload {R : Type} {mt : Mt} {wr : R → Option Value} {pc : Nat} {lv : List (Nat × Value)} {st : List Value} {M : Mem} {F : Option (R × Mem)} {i q : Nat} {x : Nat} (hd : decode mt.2.1 pc = .ok (.aload i, 2)) (hq : lv[q]? = some (i, .ref x)) (K : J mt wr (pc + 2) lv (.ref x :: st) M F) : J mt wr pc lv st M F := by
  intro r M' hF p l e s m args below meth c D ad dA A mc ms hp H locs ls hP hD hS hl
  obtain ⟨hx, hb, hr, hml, hown, hts, hlk, hC⟩ := id hp
  exact lv_aload hx hb hd (lv_at hl q (lvp_get hq)) (K r M' hF p l e s m args below meth c D ad dA A mc ms hp H locs ls hP hD hS hl)
theorem j_istore_n {R : Type} {mt : Mt} {wr : R → Option Value} {pc : Nat} {lv : List (Nat × Value)} {st : List Value} {M : Mem} {F : Option (R × Mem)} {k : Fin 4} {i : Nat} {x : Int32} {lv' : List (Nat × Value)} (hd : decode mt.2.1 pc = .ok (.istore_n k, 1)) (hi : (k : Nat) = i) (hn : i < mt.2.2.1) (h : (i, Value.int x) :: lv.filter (fun q => !(q.1 == i) && !(q.1 + 1 == i && q.2.category == 2)) = lv') (K : J mt wr (pc + 1) lv' st M F) : J mt wr pc lv (.int x :: st) M F := by
  intro r M' hF p l e s m args below meth c D ad dA A mc ms hp H locs ls hP hD hS hl
  obtain ⟨hx, hb, hr, hml, hown, hts, hlk, hC⟩ := id hp
  exact lv_istore_n hx hb hd hi hl hn (lvp_filter h) (fun ls2 hl2 => K r M' hF p l e s m args below meth c D ad dA A mc ms hp H locs ls2 hP hD hS hl2)
theorem j_istore {R : Type} {mt : Mt} {wr : R → Option Value} {pc : Nat} {lv : List (Nat × Value)} {st : List Value} {M : Mem} {F : Option (R × Mem)} {i : Nat} {x : Int32} {lv' : List (Nat × Value)} (hd : decode mt.2.1 pc = .ok (.istore i, 2)) (hn : i < mt.2.2.1) (h : (i, Value.int x) :: lv.filter (fun q => !(q.1 == i) && !(q.1 + 1 == i && q.2.category == 2)) = lv') (K : J mt wr (pc + 2) lv' st M F) : J mt wr pc lv (.int x :: st) M F := by
  intro r M' hF p l e s m args below meth c D ad dA A mc ms hp H locs ls hP hD hS hl
  obtain ⟨hx, hb, hr, hml, hown, hts, hlk, hC⟩ := id hp
  exact lv_istore hx hb hd hl hn (lvp_filter h) (fun ls2 hl2 => K r M' hF p l e s m args below meth c D ad dA A mc ms hp H locs ls2 hP hD hS hl2)
theorem j_lstore_n {R : Type} {mt : Mt} {wr : R → Option Value} {pc : Nat} {lv : List (Nat × Value)} {st : List Value} {M : Mem} {F : Option (R × Mem)} {k : Fin 4} {i : Nat} {x : Int64} {lv' : List (Nat × Value)} (hd : decode mt.2.1 pc = .ok (.lstore_n k, 1)) (hi : (k : Nat) = i) (hn : i + 1 < mt.2.2.1) (h : (i, Value.long x) :: lv.filter (fun q => !(q.1 == i) && (!(q.1 == i + 1) && !(q.1 + 1 == i && q.2.category == 2))) = lv') (K : J mt wr (pc + 1) lv' st M F) : J mt wr pc lv (.long x :: st) M F := by
  intro r M' hF p l e s m args below meth c D ad dA A mc ms hp H locs ls hP hD hS hl
  obtain ⟨hx, hb, hr, hml, hown, hts, hlk, hC⟩ := id hp
  exact lv_lstore_n hx hb hd hi hl hn (lvp_filter2 (fun q => by simp [rvp, rv_cat]) h) (fun ls2 hl2 => K r M' hF p l e s m args below meth c D ad dA A mc ms hp H locs ls2 hP hD hS hl2)
theorem j_lstore {R : Type} {mt : Mt} {wr : R → Option Value} {pc : Nat} {lv : List (Nat × Value)} {st : List Value} {M : Mem} {F : Option (R × Mem)} {i : Nat} {x : Int64} {lv' : List (Nat × Value)} (hd : decode mt.2.1 pc = .ok (.lstore i, 2)) (hn : i + 1 < mt.2.2.1) (h : (i, Value.long x) :: lv.filter (fun q => !(q.1 == i) && (!(q.1 == i + 1) && !(q.1 + 1 == i && q.2.category == 2))) = lv') (K : J mt wr (pc + 2) lv' st M F) : J mt wr pc lv (.long x :: st) M F := by
  intro r M' hF p l e s m args below meth c D ad dA A mc ms hp H locs ls hP hD hS hl
  obtain ⟨hx, hb, hr, hml, hown, hts, hlk, hC⟩ := id hp
  exact lv_lstore hx hb hd hl hn (lvp_filter2 (fun q => by simp [rvp, rv_cat]) h) (fun ls2 hl2 => K r M' hF p l e s m args below meth c D ad dA A mc ms hp H locs ls2 hP hD hS hl2)
theorem j_astore_n {R : Type} {mt : Mt} {wr : R → Option Value} {pc : Nat} {lv : List (Nat × Value)} {st : List Value} {M : Mem} {F : Option (R × Mem)} {k : Fin 4} {i : Nat} {x : Nat} {lv' : List (Nat × Value)} (hd : decode mt.2.1 pc = .ok (.astore_n k, 1)) (hi : (k : Nat) = i) (hn : i < mt.2.2.1) (h : (i, Value.ref x) :: lv.filter (fun q => !(q.1 == i) && !(q.1 + 1 == i && q.2.category == 2)) = lv') (K : J mt wr (pc + 1) lv' st M F) : J mt wr pc lv (.ref x :: st) M F := by
  intro r M' hF p l e s m args below meth c D ad dA A mc ms hp H locs ls hP hD hS hl
  obtain ⟨hx, hb, hr, hml, hown, hts, hlk, hC⟩ := id hp
  exact lv_astore_n hx hb hd hi hl hn (lvp_filter h) (fun ls2 hl2 => K r M' hF p l e s m args below meth c D ad dA A mc ms hp H locs ls2 hP hD hS hl2)
theorem j_astore {R : Type} {mt : Mt} {wr : R → Option Value} {pc : Nat} {lv : List (Nat × Value)} {st : List Value} {M : Mem} {F : Option (R × Mem)} {i : Nat} {x : Nat} {lv' : List (Nat × Value)} (hd : decode mt.2.1 pc = .ok (.astore i, 2)) (hn : i < mt.2.2.1) (h : (i, Value.ref x) :: lv.filter (fun q => !(q.1 == i) && !(q.1 + 1 == i && q.2.category == 2)) = lv') (K : J mt wr (pc + 2) lv' st M F) : J mt wr pc lv (.ref x :: st) M F := by
  intro r M' hF p l e s m args below meth c D ad dA A mc ms hp H locs ls hP hD hS hl
  obtain ⟨hx, hb, hr, hml, hown, hts, hlk, hC⟩ := id hp
  exact lv_astore hx hb hd hl hn (lvp_filter h) (fun ls2 hl2 => K r M' hF p l e s m args below meth c D ad dA A mc ms hp H locs ls2 hP hD hS hl2)
theorem j_iinc {R : Type} {mt : Mt} {wr : R → Option Value} {pc : Nat} {lv : List (Nat × Value)} {st : List Value} {M : Mem} {F : Option (R × Mem)} {i q : Nat} {n : Int} {x v : Int32} {lv' : List (Nat × Value)} (hd : decode mt.2.1 pc = .ok (.iinc i n, 3)) (hq : lv[q]? = some (i, .int x)) (hv : x + Int32.ofInt n = v) (hn : i < mt.2.2.1) (h : (i, Value.int v) :: lv.filter (fun q => !(q.1 == i) && !(q.1 + 1 == i && q.2.category == 2)) = lv') (K : J mt wr (pc + 3) lv' st M F) : J mt wr pc lv st M F := by
  intro r M' hF p l e s m args below meth c D ad dA A mc ms hp H locs ls hP hD hS hl
  obtain ⟨hx, hb, hr, hml, hown, hts, hlk, hC⟩ := id hp
  exact lv_iinc hx hb hd hl (lvp_get hq) hv hn (lvp_filter h) (fun ls2 hl2 => K r M' hF p l e s m args below meth c D ad dA A mc ms hp H locs ls2 hP hD hS hl2)
theorem j_icmp_eq {R : Type} {mt : Mt} {wr : R → Option Value} {pc : Nat} {lv : List (Nat × Value)} {st : List Value} {M : Mem} {F G : Option (R × Mem)} {x y : Int32} {off : Int} {tgt : Nat} (hd : decode mt.2.1 pc = .ok (.if_icmp .eq off, 3)) (ht : (pc : Int) + off = (tgt : Int)) (K : x = y → J mt wr tgt lv st M F) (L : ¬ (x = y) → J mt wr (pc + 3) lv st M G) : J mt wr pc lv (.int y :: .int x :: st) M (if x = y then F else G) := by
  intro r M' hF p l e s m args below meth c D ad dA A mc ms hp H locs ls hP hD hS hl
  obtain ⟨hx, hb, hr, hml, hown, hts, hlk, hC⟩ := id hp
  refine lv_icmp_eq hx hb hd ht (fun h => ?_) (fun h => ?_)
  · exact K h r M' ((if_pos h).symm.trans hF) p l e s m args below meth c D ad dA A mc ms hp H locs ls hP hD hS hl
  · exact L h r M' ((if_neg h).symm.trans hF) p l e s m args below meth c D ad dA A mc ms hp H locs ls hP hD hS hl
theorem j_if_eq {R : Type} {mt : Mt} {wr : R → Option Value} {pc : Nat} {lv : List (Nat × Value)} {st : List Value} {M : Mem} {F G : Option (R × Mem)} {x : Int32} {off : Int} {tgt : Nat} (hd : decode mt.2.1 pc = .ok (.ifCond .eq off, 3)) (ht : (pc : Int) + off = (tgt : Int)) (K : x = 0 → J mt wr tgt lv st M F) (L : ¬ (x = 0) → J mt wr (pc + 3) lv st M G) : J mt wr pc lv (.int x :: st) M (if x = 0 then F else G) := by
  intro r M' hF p l e s m args below meth c D ad dA A mc ms hp H locs ls hP hD hS hl
  obtain ⟨hx, hb, hr, hml, hown, hts, hlk, hC⟩ := id hp
  refine lv_if_eq hx hb hd ht (fun h => ?_) (fun h => ?_)
  · exact K h r M' ((if_pos h).symm.trans hF) p l e s m args below meth c D ad dA A mc ms hp H locs ls hP hD hS hl
  · exact L h r M' ((if_neg h).symm.trans hF) p l e s m args below meth c D ad dA A mc ms hp H locs ls hP hD hS hl
theorem j_icmp_lt {R : Type} {mt : Mt} {wr : R → Option Value} {pc : Nat} {lv : List (Nat × Value)} {st : List Value} {M : Mem} {F G : Option (R × Mem)} {x y : Int32} {off : Int} {tgt : Nat} (hd : decode mt.2.1 pc = .ok (.if_icmp .lt off, 3)) (ht : (pc : Int) + off = (tgt : Int)) (K : x < y → J mt wr tgt lv st M F) (L : ¬ (x < y) → J mt wr (pc + 3) lv st M G) : J mt wr pc lv (.int y :: .int x :: st) M (if x < y then F else G) := by
  intro r M' hF p l e s m args below meth c D ad dA A mc ms hp H locs ls hP hD hS hl
  obtain ⟨hx, hb, hr, hml, hown, hts, hlk, hC⟩ := id hp
  refine lv_icmp_lt hx hb hd ht (fun h => ?_) (fun h => ?_)
  · exact K h r M' ((if_pos h).symm.trans hF) p l e s m args below meth c D ad dA A mc ms hp H locs ls hP hD hS hl
  · exact L h r M' ((if_neg h).symm.trans hF) p l e s m args below meth c D ad dA A mc ms hp H locs ls hP hD hS hl
theorem j_if_lt {R : Type} {mt : Mt} {wr : R → Option Value} {pc : Nat} {lv : List (Nat × Value)} {st : List Value} {M : Mem} {F G : Option (R × Mem)} {x : Int32} {off : Int} {tgt : Nat} (hd : decode mt.2.1 pc = .ok (.ifCond .lt off, 3)) (ht : (pc : Int) + off = (tgt : Int)) (K : x < 0 → J mt wr tgt lv st M F) (L : ¬ (x < 0) → J mt wr (pc + 3) lv st M G) : J mt wr pc lv (.int x :: st) M (if x < 0 then F else G) := by
  intro r M' hF p l e s m args below meth c D ad dA A mc ms hp H locs ls hP hD hS hl
  obtain ⟨hx, hb, hr, hml, hown, hts, hlk, hC⟩ := id hp
  refine lv_if_lt hx hb hd ht (fun h => ?_) (fun h => ?_)
  · exact K h r M' ((if_pos h).symm.trans hF) p l e s m args below meth c D ad dA A mc ms hp H locs ls hP hD hS hl
  · exact L h r M' ((if_neg h).symm.trans hF) p l e s m args below meth c D ad dA A mc ms hp H locs ls hP hD hS hl
theorem j_icmp_ge {R : Type} {mt : Mt} {wr : R → Option Value} {pc : Nat} {lv : List (Nat × Value)} {st : List Value} {M : Mem} {F G : Option (R × Mem)} {x y : Int32} {off : Int} {tgt : Nat} (hd : decode mt.2.1 pc = .ok (.if_icmp .ge off, 3)) (ht : (pc : Int) + off = (tgt : Int)) (K : y ≤ x → J mt wr tgt lv st M F) (L : ¬ (y ≤ x) → J mt wr (pc + 3) lv st M G) : J mt wr pc lv (.int y :: .int x :: st) M (if y ≤ x then F else G) := by
  intro r M' hF p l e s m args below meth c D ad dA A mc ms hp H locs ls hP hD hS hl
  obtain ⟨hx, hb, hr, hml, hown, hts, hlk, hC⟩ := id hp
  refine lv_icmp_ge hx hb hd ht (fun h => ?_) (fun h => ?_)
  · exact K h r M' ((if_pos h).symm.trans hF) p l e s m args below meth c D ad dA A mc ms hp H locs ls hP hD hS hl
  · exact L h r M' ((if_neg h).symm.trans hF) p l e s m args below meth c D ad dA A mc ms hp H locs ls hP hD hS hl
theorem j_if_ge {R : Type} {mt : Mt} {wr : R → Option Value} {pc : Nat} {lv : List (Nat × Value)} {st : List Value} {M : Mem} {F G : Option (R × Mem)} {x : Int32} {off : Int} {tgt : Nat} (hd : decode mt.2.1 pc = .ok (.ifCond .ge off, 3)) (ht : (pc : Int) + off = (tgt : Int)) (K : 0 ≤ x → J mt wr tgt lv st M F) (L : ¬ (0 ≤ x) → J mt wr (pc + 3) lv st M G) : J mt wr pc lv (.int x :: st) M (if 0 ≤ x then F else G) := by
  intro r M' hF p l e s m args below meth c D ad dA A mc ms hp H locs ls hP hD hS hl
  obtain ⟨hx, hb, hr, hml, hown, hts, hlk, hC⟩ := id hp
  refine lv_if_ge hx hb hd ht (fun h => ?_) (fun h => ?_)
  · exact K h r M' ((if_pos h).symm.trans hF) p l e s m args below meth c D ad dA A mc ms hp H locs ls hP hD hS hl
  · exact L h r M' ((if_neg h).symm.trans hF) p l e s m args below meth c D ad dA A mc ms hp H locs ls hP hD hS hl
theorem j_icmp_gt {R : Type} {mt : Mt} {wr : R → Option Value} {pc : Nat} {lv : List (Nat × Value)} {st : List Value} {M : Mem} {F G : Option (R × Mem)} {x y : Int32} {off : Int} {tgt : Nat} (hd : decode mt.2.1 pc = .ok (.if_icmp .gt off, 3)) (ht : (pc : Int) + off = (tgt : Int)) (K : y < x → J mt wr tgt lv st M F) (L : ¬ (y < x) → J mt wr (pc + 3) lv st M G) : J mt wr pc lv (.int y :: .int x :: st) M (if y < x then F else G) := by
  intro r M' hF p l e s m args below meth c D ad dA A mc ms hp H locs ls hP hD hS hl
  obtain ⟨hx, hb, hr, hml, hown, hts, hlk, hC⟩ := id hp
  refine lv_icmp_gt hx hb hd ht (fun h => ?_) (fun h => ?_)
  · exact K h r M' ((if_pos h).symm.trans hF) p l e s m args below meth c D ad dA A mc ms hp H locs ls hP hD hS hl
  · exact L h r M' ((if_neg h).symm.trans hF) p l e s m args below meth c D ad dA A mc ms hp H locs ls hP hD hS hl
theorem j_if_gt {R : Type} {mt : Mt} {wr : R → Option Value} {pc : Nat} {lv : List (Nat × Value)} {st : List Value} {M : Mem} {F G : Option (R × Mem)} {x : Int32} {off : Int} {tgt : Nat} (hd : decode mt.2.1 pc = .ok (.ifCond .gt off, 3)) (ht : (pc : Int) + off = (tgt : Int)) (K : 0 < x → J mt wr tgt lv st M F) (L : ¬ (0 < x) → J mt wr (pc + 3) lv st M G) : J mt wr pc lv (.int x :: st) M (if 0 < x then F else G) := by
  intro r M' hF p l e s m args below meth c D ad dA A mc ms hp H locs ls hP hD hS hl
  obtain ⟨hx, hb, hr, hml, hown, hts, hlk, hC⟩ := id hp
  refine lv_if_gt hx hb hd ht (fun h => ?_) (fun h => ?_)
  · exact K h r M' ((if_pos h).symm.trans hF) p l e s m args below meth c D ad dA A mc ms hp H locs ls hP hD hS hl
  · exact L h r M' ((if_neg h).symm.trans hF) p l e s m args below meth c D ad dA A mc ms hp H locs ls hP hD hS hl
theorem j_icmp_le {R : Type} {mt : Mt} {wr : R → Option Value} {pc : Nat} {lv : List (Nat × Value)} {st : List Value} {M : Mem} {F G : Option (R × Mem)} {x y : Int32} {off : Int} {tgt : Nat} (hd : decode mt.2.1 pc = .ok (.if_icmp .le off, 3)) (ht : (pc : Int) + off = (tgt : Int)) (K : x ≤ y → J mt wr tgt lv st M F) (L : ¬ (x ≤ y) → J mt wr (pc + 3) lv st M G) : J mt wr pc lv (.int y :: .int x :: st) M (if x ≤ y then F else G) := by
  intro r M' hF p l e s m args below meth c D ad dA A mc ms hp H locs ls hP hD hS hl
  obtain ⟨hx, hb, hr, hml, hown, hts, hlk, hC⟩ := id hp
  refine lv_icmp_le hx hb hd ht (fun h => ?_) (fun h => ?_)
  · exact K h r M' ((if_pos h).symm.trans hF) p l e s m args below meth c D ad dA A mc ms hp H locs ls hP hD hS hl
  · exact L h r M' ((if_neg h).symm.trans hF) p l e s m args below meth c D ad dA A mc ms hp H locs ls hP hD hS hl
theorem j_if_le {R : Type} {mt : Mt} {wr : R → Option Value} {pc : Nat} {lv : List (Nat × Value)} {st : List Value} {M : Mem} {F G : Option (R × Mem)} {x : Int32} {off : Int} {tgt : Nat} (hd : decode mt.2.1 pc = .ok (.ifCond .le off, 3)) (ht : (pc : Int) + off = (tgt : Int)) (K : x ≤ 0 → J mt wr tgt lv st M F) (L : ¬ (x ≤ 0) → J mt wr (pc + 3) lv st M G) : J mt wr pc lv (.int x :: st) M (if x ≤ 0 then F else G) := by
  intro r M' hF p l e s m args below meth c D ad dA A mc ms hp H locs ls hP hD hS hl
  obtain ⟨hx, hb, hr, hml, hown, hts, hlk, hC⟩ := id hp
  refine lv_if_le hx hb hd ht (fun h => ?_) (fun h => ?_)
  · exact K h r M' ((if_pos h).symm.trans hF) p l e s m args below meth c D ad dA A mc ms hp H locs ls hP hD hS hl
  · exact L h r M' ((if_neg h).symm.trans hF) p l e s m args below meth c D ad dA A mc ms hp H locs ls hP hD hS hl
theorem j_icmp_ne {R : Type} {mt : Mt} {wr : R → Option Value} {pc : Nat} {lv : List (Nat × Value)} {st : List Value} {M : Mem} {F G : Option (R × Mem)} {x y : Int32} {off : Int} {tgt : Nat} (hd : decode mt.2.1 pc = .ok (.if_icmp .ne off, 3)) (ht : (pc : Int) + off = (tgt : Int)) (K : ¬ (x = y) → J mt wr tgt lv st M G) (L : x = y → J mt wr (pc + 3) lv st M F) : J mt wr pc lv (.int y :: .int x :: st) M (if x = y then F else G) := by
  intro r M' hF p l e s m args below meth c D ad dA A mc ms hp H locs ls hP hD hS hl
  obtain ⟨hx, hb, hr, hml, hown, hts, hlk, hC⟩ := id hp
  refine lv_icmp_ne hx hb hd ht (fun h => ?_) (fun h => ?_)
  · exact K h r M' ((if_neg h).symm.trans hF) p l e s m args below meth c D ad dA A mc ms hp H locs ls hP hD hS hl
  · exact L h r M' ((if_pos h).symm.trans hF) p l e s m args below meth c D ad dA A mc ms hp H locs ls hP hD hS hl
theorem j_if_ne {R : Type} {mt : Mt} {wr : R → Option Value} {pc : Nat} {lv : List (Nat × Value)} {st : List Value} {M : Mem} {F G : Option (R × Mem)} {x : Int32} {off : Int} {tgt : Nat} (hd : decode mt.2.1 pc = .ok (.ifCond .ne off, 3)) (ht : (pc : Int) + off = (tgt : Int)) (K : ¬ (x = 0) → J mt wr tgt lv st M G) (L : x = 0 → J mt wr (pc + 3) lv st M F) : J mt wr pc lv (.int x :: st) M (if x = 0 then F else G) := by
  intro r M' hF p l e s m args below meth c D ad dA A mc ms hp H locs ls hP hD hS hl
  obtain ⟨hx, hb, hr, hml, hown, hts, hlk, hC⟩ := id hp
  refine lv_if_ne hx hb hd ht (fun h => ?_) (fun h => ?_)
  · exact K h r M' ((if_neg h).symm.trans hF) p l e s m args below meth c D ad dA A mc ms hp H locs ls hP hD hS hl
  · exact L h r M' ((if_pos h).symm.trans hF) p l e s m args below meth c D ad dA A mc ms hp H locs ls hP hD hS hl
theorem j_goto {R : Type} {mt : Mt} {wr : R → Option Value} {pc : Nat} {lv : List (Nat × Value)} {st : List Value} {M : Mem} {F : Option (R × Mem)} {off : Int} {tgt : Nat} (hd : decode mt.2.1 pc = .ok (.goto off, 3)) (ht : (pc : Int) + off = (tgt : Int)) (K : J mt wr tgt lv st M F) : J mt wr pc lv st M F := by
  intro r M' hF p l e s m args below meth c D ad dA A mc ms hp H locs ls hP hD hS hl
  obtain ⟨hx, hb, hr, hml, hown, hts, hlk, hC⟩ := id hp
  exact lv_goto hx hb hd ht (K r M' hF p l e s m args below meth c D ad dA A mc ms hp H locs ls hP hD hS hl)
theorem j_tableIn {R : Type} {mt : Mt} {wr : R → Option Value} {pc : Nat} {lv : List (Nat × Value)} {st : List Value} {M : Mem} {F : Option (R × Mem)} {dflt lo hi : Int} {offs : Array Int} {len : Nat} {x : Int32} {off : Int} {tgt : Nat} (hd : decode mt.2.1 pc = .ok (.tableswitch dflt lo hi offs, len)) (v : Int32) (hv : x = v) (h1 : ¬ v.toInt < lo) (h2 : ¬ hi < v.toInt) (ho : offs[(v.toInt - lo).toNat]? = some off) (ht : (pc : Int) + off = (tgt : Int)) (K : J mt wr tgt lv st M F) : J mt wr pc lv (.int x :: st) M F := by
  subst hv
  intro r M' hF p l e s m args below meth c D ad dA A mc ms hp H locs ls hP hD hS hl
  obtain ⟨hx, hb, hr, hml, hown, hts, hlk, hC⟩ := id hp
  exact lv_tableIn hx hb hd h1 h2 ho ht (K r M' hF p l e s m args below meth c D ad dA A mc ms hp H locs ls hP hD hS hl)
theorem j_tableOut {R : Type} {mt : Mt} {wr : R → Option Value} {pc : Nat} {lv : List (Nat × Value)} {st : List Value} {M : Mem} {F : Option (R × Mem)} {dflt lo hi : Int} {offs : Array Int} {len : Nat} {x : Int32} {tgt : Nat} (hd : decode mt.2.1 pc = .ok (.tableswitch dflt lo hi offs, len)) (h : x.toInt < lo ∨ hi < x.toInt) (ht : (pc : Int) + dflt = (tgt : Int)) (K : J mt wr tgt lv st M F) : J mt wr pc lv (.int x :: st) M F := by
  intro r M' hF p l e s m args below meth c D ad dA A mc ms hp H locs ls hP hD hS hl
  obtain ⟨hx, hb, hr, hml, hown, hts, hlk, hC⟩ := id hp
  exact lv_tableOut hx hb hd h ht (K r M' hF p l e s m args below meth c D ad dA A mc ms hp H locs ls hP hD hS hl)
def nm {α β : Type} (e : α) (f : α → β) : β := f e
def gd {α : Type} (i : Int32) (n : Nat) (F : Option α) : Option α := if i < 0 ∨ n ≤ i.toNatClampNeg then none else F
def bd {α β : Type} (x : Option (α × Mem)) (f : α → Mem → Option β) : Option β := match x with
  | some q => f q.1 q.2
  | none => none
theorem j_none {R : Type} {mt : Mt} {wr : R → Option Value} {pc : Nat} {lv : List (Nat × Value)} {st : List Value} {M : Mem} : J mt wr pc lv st M none := fun r M' hF => by cases hF
theorem j_nm {R α : Type} {mt : Mt} {wr : R → Option Value} {pc : Nat} {lv : List (Nat × Value)} {st : List Value} {M : Mem} {e : α} {f : α → Option (R × Mem)} (K : J mt wr pc lv st M (f e)) : J mt wr pc lv st M (nm e f) := K
theorem j_nmi {R : Type} {mt : Mt} {wr : R → Option Value} {pc : Nat} {lv : List (Nat × Value)} {st : List Value} {M : Mem} {e : Int32} {f : Int32 → Option (R × Mem)} (K : ∀ x : Int32, J mt wr pc lv (.int x :: st) M (f x)) : J mt wr pc lv (.int e :: st) M (nm e f) := K e
theorem j_nml {R : Type} {mt : Mt} {wr : R → Option Value} {pc : Nat} {lv : List (Nat × Value)} {st : List Value} {M : Mem} {e : Int64} {f : Int64 → Option (R × Mem)} (K : ∀ x : Int64, J mt wr pc lv (.long x :: st) M (f x)) : J mt wr pc lv (.long e :: st) M (nm e f) := K e
theorem j_nmM {R : Type} {mt : Mt} {wr : R → Option Value} {pc : Nat} {lv : List (Nat × Value)} {st : List Value} {M : Mem} {f : Mem → Option (R × Mem)} (K : ∀ N : Mem, J mt wr pc lv st N (f N)) : J mt wr pc lv st M (nm M f) := K M
theorem j_lv {R : Type} {mt : Mt} {wr : R → Option Value} {pc : Nat} {lv lv' : List (Nat × Value)} {st : List Value} {M : Mem} {F : Option (R × Mem)} (ks : List Nat) (h : lv_pick lv ks = lv') (K : J mt wr pc lv' st M F) : J mt wr pc lv st M F := by
  intro r M' hF p l e s m args below meth c D ad dA A mc ms hp H locs ls hP hD hS hl
  refine K r M' hF p l e s m args below meth c D ad dA A mc ms hp H locs ls hP hD hS (lv_sub hl ks ?_)
  subst h
  unfold lv_pick
  rw [List.map_filterMap]
  congr 1
  funext k
  simp
theorem j_gd {R : Type} {mt : Mt} {wr : R → Option Value} {pc : Nat} {lv : List (Nat × Value)} {st : List Value} {M : Mem} {F : Option (R × Mem)} {i : Int32} {n : Nat} (K : vp_in i n → J mt wr pc lv st M F) : J mt wr pc lv st M (gd i n F) := by
  unfold gd
  by_cases h : i < 0 ∨ n ≤ i.toNatClampNeg
  · rw [if_pos h]; exact j_none
  · rw [if_neg h]; exact K h
def wI : Int32 → Option Value := fun x => some (.int x)
def wL : Int64 → Option Value := fun x => some (.long x)
def wU : Unit → Option Value := fun _ => none
theorem j_ireturn {mt : Mt} {pc : Nat} {lv : List (Nat × Value)} {M : Mem} {x : Int32} (hd : decode mt.2.1 pc = .ok (.ireturn, 1)) (hrt : mt.2.2.2.1 = some .int) : J mt wI pc lv [.int x] M (some (x, M)) := by
  intro r M' hF p l e s m args below meth c D ad dA A mc ms hp H locs ls hP hD hS hl
  obtain ⟨hx, hb, hr, hml, hown, hts, hlk, hC⟩ := id hp
  cases hF
  exact W.iret hx hb (hr.trans hrt) (fun t ht hW => ⟨rfl, by show Wd D ad dA A _ _ t.heap; rw [ht]; exact ⟨hP, hD⟩, hS.F ht⟩) hS.2.2 hd
theorem j_zreturn {mt : Mt} {pc : Nat} {lv : List (Nat × Value)} {M : Mem} {x : Int32} {ty : FieldType} (hd : decode mt.2.1 pc = .ok (.ireturn, 1)) (hrt : mt.2.2.2.1 = some ty) (hn : narrow ty (.int x) = .int x) : J mt wI pc lv [.int x] M (some (x, M)) := by
  intro r M' hF p l e s m args below meth c D ad dA A mc ms hp H locs ls hP hD hS hl
  obtain ⟨hx, hb, hr, hml, hown, hts, hlk, hC⟩ := id hp
  cases hF
  exact W.zret hx hb (hr.trans hrt) hn (fun t ht hW => ⟨rfl, by show Wd D ad dA A _ _ t.heap; rw [ht]; exact ⟨hP, hD⟩, hS.F ht⟩) hS.2.2 hd
theorem j_lreturn {mt : Mt} {pc : Nat} {lv : List (Nat × Value)} {M : Mem} {x : Int64} (hd : decode mt.2.1 pc = .ok (.lreturn, 1)) (hrt : mt.2.2.2.1 = some .long) : J mt wL pc lv [.long x] M (some (x, M)) := by
  intro r M' hF p l e s m args below meth c D ad dA A mc ms hp H locs ls hP hD hS hl
  obtain ⟨hx, hb, hr, hml, hown, hts, hlk, hC⟩ := id hp
  cases hF
  exact W.lret hx hb (hr.trans hrt) (fun t ht hW => ⟨rfl, by show Wd D ad dA A _ _ t.heap; rw [ht]; exact ⟨hP, hD⟩, hS.F ht⟩) hS.2.2 hd
theorem j_return {mt : Mt} {pc : Nat} {lv : List (Nat × Value)} {M : Mem}  (hd : decode mt.2.1 pc = .ok (.return_, 1)) (hrt : mt.2.2.2.1 = none) : J mt wU pc lv [] M (some ((), M)) := by
  intro r M' hF p l e s m args below meth c D ad dA A mc ms hp H locs ls hP hD hS hl
  obtain ⟨hx, hb, hr, hml, hown, hts, hlk, hC⟩ := id hp
  cases hF
  exact W.vret hx hb (hr.trans hrt) (fun t ht hW => ⟨rfl, by show Wd D ad dA A _ _ t.heap; rw [ht]; exact ⟨hP, hD⟩, hS.F ht⟩) hS.2.2 hd
