/-! THE LAW: its body over the memories of class and reference (ids: 0 the class's object, 300 the reference's, 301 the script) -/
theorem cl_Law_13 : Cond.constantLong "ShakeHandsLaw" 13 4294967295 ∈ tbl := tb_7 17 (by decide +kernel) rfl
def adL (base b : Nat) (k : Nat) : Nat := if k = 0 then base else if k = 300 then base + 50 else b
def Ax (base : Nat) : Nat → Prop := fun q => base ≤ q ∧ q < base + 50
def Am (base : Nat) : Nat → Prop := fun q => base + 50 ≤ q ∧ q < base + 76
def HL (p : Program) (s : State) (m : MethodId) (args : Array Value) (meth : Method) (c : Code) (D : va_G) (stt : Nat → Nat) (dA : Nat → ClassId) (b L : Nat) (xs : Nat → Int32) : Prop :=
  p.tables.exec = Jvm.exec ∧ c.code = code ∧ meth.sig.returnType = ret ∧ c.maxLocals = 4 ∧ s.vm.findClass R_law = some m.cls ∧ (∀ w ∈ tbl, w.before args s = true) ∧ meth.locks = false ∧ args = #[Value.ref b] ∧ va_X b L xs s s.heap ∧ b < s.heap.size ∧ Cx D (adB s.heap.size stt) dA (fun q => s.heap.size ≤ q) s s.heap
def JL (L : Nat) (xs : Nat → Int32) (pc : Nat) (lv : List (Nat × Value)) (st : List Value) (Mx Mm : Mem) : Prop :=
  ∀ (p : Program) (l : Launch) (e : Env) (s : State) (m : MethodId) (args : Array Value) (below : List Frame) (meth : Method) (c : Code) (D : va_G) (stt : Nat → Nat) (dA : Nat → ClassId) (b : Nat), HL p s m args meth c D stt dA b L xs →
    ∀ (H : Heap) (locs : List Loc) (ls : Array Slot), Wd D (adB s.heap.size stt) dA (Ax s.heap.size) SHx Mx H → Wd D (adB (s.heap.size + 50) stt) dA (Am s.heap.size) SHm Mm H → va_S (fun q => s.heap.size ≤ q) s.heap H locs → lv_has ls 4 (lv.map (rvp (adL s.heap.size b))) →
      W p l e room_1 s m args below meth c H locs 76 4853 (lw_Z below #[Value.ref b] s) (F0 m pc ls (st.map (rv (adL s.heap.size b))))
theorem l_iadd {L : Nat} {xs : Nat → Int32} {pc : Nat} {lv : List (Nat × Value)} {st : List Value} {Mx Mm : Mem} {x y : Int32} (hd : decode code pc = .ok (.iadd, 1)) (K : JL L xs (pc + 1) lv (.int (x + y) :: st) Mx Mm) : JL L xs pc lv (.int y :: .int x :: st) Mx Mm := by
  intro p l e s m args below meth c D stt dA b hp H locs ls hWx hWm hS hl
  obtain ⟨hx, hb, hr, hml, hown, hts, hlk, hargs, hX, hbl, hC⟩ := id hp
  exact lv_iadd hx hb hd (K p l e s m args below meth c D stt dA b hp H locs ls hWx hWm hS hl)
theorem l_isub {L : Nat} {xs : Nat → Int32} {pc : Nat} {lv : List (Nat × Value)} {st : List Value} {Mx Mm : Mem} {x y : Int32} (hd : decode code pc = .ok (.isub, 1)) (K : JL L xs (pc + 1) lv (.int (x - y) :: st) Mx Mm) : JL L xs pc lv (.int y :: .int x :: st) Mx Mm := by
  intro p l e s m args below meth c D stt dA b hp H locs ls hWx hWm hS hl
  obtain ⟨hx, hb, hr, hml, hown, hts, hlk, hargs, hX, hbl, hC⟩ := id hp
  exact lv_isub hx hb hd (K p l e s m args below meth c D stt dA b hp H locs ls hWx hWm hS hl)
theorem l_iand {L : Nat} {xs : Nat → Int32} {pc : Nat} {lv : List (Nat × Value)} {st : List Value} {Mx Mm : Mem} {x y : Int32} (hd : decode code pc = .ok (.iand, 1)) (K : JL L xs (pc + 1) lv (.int (x &&& y) :: st) Mx Mm) : JL L xs pc lv (.int y :: .int x :: st) Mx Mm := by
  intro p l e s m args below meth c D stt dA b hp H locs ls hWx hWm hS hl
  obtain ⟨hx, hb, hr, hml, hown, hts, hlk, hargs, hX, hbl, hC⟩ := id hp
  exact lv_iand hx hb hd (K p l e s m args below meth c D stt dA b hp H locs ls hWx hWm hS hl)
theorem l_land {L : Nat} {xs : Nat → Int32} {pc : Nat} {lv : List (Nat × Value)} {st : List Value} {Mx Mm : Mem} {x y : Int64} (hd : decode code pc = .ok (.land, 1)) (K : JL L xs (pc + 1) lv (.long (x &&& y) :: st) Mx Mm) : JL L xs pc lv (.long y :: .long x :: st) Mx Mm := by
  intro p l e s m args below meth c D stt dA b hp H locs ls hWx hWm hS hl
  obtain ⟨hx, hb, hr, hml, hown, hts, hlk, hargs, hX, hbl, hC⟩ := id hp
  exact lv_land hx hb hd (K p l e s m args below meth c D stt dA b hp H locs ls hWx hWm hS hl)
theorem l_lor {L : Nat} {xs : Nat → Int32} {pc : Nat} {lv : List (Nat × Value)} {st : List Value} {Mx Mm : Mem} {x y : Int64} (hd : decode code pc = .ok (.lor, 1)) (K : JL L xs (pc + 1) lv (.long (x ||| y) :: st) Mx Mm) : JL L xs pc lv (.long y :: .long x :: st) Mx Mm := by
  intro p l e s m args below meth c D stt dA b hp H locs ls hWx hWm hS hl
  obtain ⟨hx, hb, hr, hml, hown, hts, hlk, hargs, hX, hbl, hC⟩ := id hp
  exact lv_lor hx hb hd (K p l e s m args below meth c D stt dA b hp H locs ls hWx hWm hS hl)
theorem l_lshl {L : Nat} {xs : Nat → Int32} {pc : Nat} {lv : List (Nat × Value)} {st : List Value} {Mx Mm : Mem} {x : Int64} {y : Int32} (hd : decode code pc = .ok (.lshl, 1)) (K : JL L xs (pc + 1) lv (.long (x <<< (y.toInt64 &&& 63)) :: st) Mx Mm) : JL L xs pc lv (.int y :: .long x :: st) Mx Mm := by
  intro p l e s m args below meth c D stt dA b hp H locs ls hWx hWm hS hl
  obtain ⟨hx, hb, hr, hml, hown, hts, hlk, hargs, hX, hbl, hC⟩ := id hp
  exact lv_lshl hx hb hd rfl (K p l e s m args below meth c D stt dA b hp H locs ls hWx hWm hS hl)
theorem l_i2l {L : Nat} {xs : Nat → Int32} {pc : Nat} {lv : List (Nat × Value)} {st : List Value} {Mx Mm : Mem} {x : Int32} (hd : decode code pc = .ok (.i2l, 1)) (K : JL L xs (pc + 1) lv (.long x.toInt64 :: st) Mx Mm) : JL L xs pc lv (.int x :: st) Mx Mm := by
  intro p l e s m args below meth c D stt dA b hp H locs ls hWx hWm hS hl
  obtain ⟨hx, hb, hr, hml, hown, hts, hlk, hargs, hX, hbl, hC⟩ := id hp
  exact lv_i2l hx hb hd rfl (K p l e s m args below meth c D stt dA b hp H locs ls hWx hWm hS hl)
theorem l_pop {L : Nat} {xs : Nat → Int32} {pc : Nat} {lv : List (Nat × Value)} {st : List Value} {Mx Mm : Mem} {v : Int32} (hd : decode code pc = .ok (.pop, 1)) (K : JL L xs (pc + 1) lv st Mx Mm) : JL L xs pc lv (.int v :: st) Mx Mm := by
  intro p l e s m args below meth c D stt dA b hp H locs ls hWx hWm hS hl
  obtain ⟨hx, hb, hr, hml, hown, hts, hlk, hargs, hX, hbl, hC⟩ := id hp
  exact lv_pop hx hb hd rfl (K p l e s m args below meth c D stt dA b hp H locs ls hWx hWm hS hl)
theorem l_iconst {L : Nat} {xs : Nat → Int32} {pc : Nat} {lv : List (Nat × Value)} {st : List Value} {Mx Mm : Mem} {i : Int} {v : Int32} (hd : decode code pc = .ok (.iconst i, 1)) (hv : Int32.ofInt i = v) (K : JL L xs (pc + 1) lv (.int v :: st) Mx Mm) : JL L xs pc lv st Mx Mm := by
  intro p l e s m args below meth c D stt dA b hp H locs ls hWx hWm hS hl
  obtain ⟨hx, hb, hr, hml, hown, hts, hlk, hargs, hX, hbl, hC⟩ := id hp
  exact lv_iconst hx hb hd hv (K p l e s m args below meth c D stt dA b hp H locs ls hWx hWm hS hl)
theorem l_bipush {L : Nat} {xs : Nat → Int32} {pc : Nat} {lv : List (Nat × Value)} {st : List Value} {Mx Mm : Mem} {i : Int} {v : Int32} (hd : decode code pc = .ok (.bipush i, 2)) (hv : (Int8.ofInt i).toInt32 = v) (K : JL L xs (pc + 2) lv (.int v :: st) Mx Mm) : JL L xs pc lv st Mx Mm := by
  intro p l e s m args below meth c D stt dA b hp H locs ls hWx hWm hS hl
  obtain ⟨hx, hb, hr, hml, hown, hts, hlk, hargs, hX, hbl, hC⟩ := id hp
  exact lv_bipush hx hb hd hv (K p l e s m args below meth c D stt dA b hp H locs ls hWx hWm hS hl)
theorem l_ldc2 {L : Nat} {xs : Nat → Int32} {pc : Nat} {lv : List (Nat × Value)} {st : List Value} {Mx Mm : Mem} {i : Nat} {v : Int64} (hd : decode code pc = .ok (.ldc2_w i, 3)) (hw : Cond.constantLong R_law i v ∈ tbl) (K : JL L xs (pc + 3) lv (.long v :: st) Mx Mm) : JL L xs pc lv st Mx Mm := by
  intro p l e s m args below meth c D stt dA b hp H locs ls hWx hWm hS hl
  obtain ⟨hx, hb, hr, hml, hown, hts, hlk, hargs, hX, hbl, hC⟩ := id hp
  exact lv_ldc2 hx hb hown (hts _ hw) hd (K p l e s m args below meth c D stt dA b hp H locs ls hWx hWm hS hl)
theorem l_iload_n {L : Nat} {xs : Nat → Int32} {pc : Nat} {lv : List (Nat × Value)} {st : List Value} {Mx Mm : Mem} {k : Fin 4} {i q : Nat} {x : Int32} (hd : decode code pc = .ok (.iload_n k, 1)) (hi : (k : Nat) = i) (hq : lv[q]? = some (i, .int x)) (K : JL L xs (pc + 1) lv (.int x :: st) Mx Mm) : JL L xs pc lv st Mx Mm := by
  intro p l e s m args below meth c D stt dA b hp H locs ls hWx hWm hS hl
  obtain ⟨hx, hb, hr, hml, hown, hts, hlk, hargs, hX, hbl, hC⟩ := id hp
  exact lv_iload_n hx hb hd hi (lv_at hl q (lvp_get hq)) (K p l e s m args below meth c D stt dA b hp H locs ls hWx hWm hS hl)
theorem l_aload_n {L : Nat} {xs : Nat → Int32} {pc : Nat} {lv : List (Nat × Value)} {st : List Value} {Mx Mm : Mem} {k : Fin 4} {i q : Nat} {x : Nat} (hd : decode code pc = .ok (.aload_n k, 1)) (hi : (k : Nat) = i) (hq : lv[q]? = some (i, .ref x)) (K : JL L xs (pc + 1) lv (.ref x :: st) Mx Mm) : JL L xs pc lv st Mx Mm := by
  intro p l e s m args below meth c D stt dA b hp H locs ls hWx hWm hS hl
  obtain ⟨hx, hb, hr, hml, hown, hts, hlk, hargs, hX, hbl, hC⟩ := id hp
  exact lv_aload_n hx hb hd hi (lv_at hl q (lvp_get hq)) (K p l e s m args below meth c D stt dA b hp H locs ls hWx hWm hS hl)
theorem l_istore_n {L : Nat} {xs : Nat → Int32} {pc : Nat} {lv : List (Nat × Value)} {st : List Value} {Mx Mm : Mem} {k : Fin 4} {i : Nat} {x : Int32} {lv' : List (Nat × Value)} (hd : decode code pc = .ok (.istore_n k, 1)) (hi : (k : Nat) = i) (hn : i < 4) (h : (i, Value.int x) :: lv.filter (fun q => !(q.1 == i) && !(q.1 + 1 == i && q.2.category == 2)) = lv') (K : JL L xs (pc + 1) lv' st Mx Mm) : JL L xs pc lv (.int x :: st) Mx Mm := by
  intro p l e s m args below meth c D stt dA b hp H locs ls hWx hWm hS hl
  obtain ⟨hx, hb, hr, hml, hown, hts, hlk, hargs, hX, hbl, hC⟩ := id hp
  exact lv_istore_n hx hb hd hi hl hn (lvp_filter h) (fun ls2 hl2 => K p l e s m args below meth c D stt dA b hp H locs ls2 hWx hWm hS hl2)
theorem l_iinc {L : Nat} {xs : Nat → Int32} {pc : Nat} {lv : List (Nat × Value)} {st : List Value} {Mx Mm : Mem} {i q : Nat} {a : Int} {x v : Int32} {lv' : List (Nat × Value)} (hd : decode code pc = .ok (.iinc i a, 3)) (hq : lv[q]? = some (i, .int x)) (hv : x + Int32.ofInt a = v) (hn : i < 4) (h : (i, Value.int v) :: lv.filter (fun q => !(q.1 == i) && !(q.1 + 1 == i && q.2.category == 2)) = lv') (K : JL L xs (pc + 3) lv' st Mx Mm) : JL L xs pc lv st Mx Mm := by
  intro p l e s m args below meth c D stt dA b hp H locs ls hWx hWm hS hl
  obtain ⟨hx, hb, hr, hml, hown, hts, hlk, hargs, hX, hbl, hC⟩ := id hp
  exact lv_iinc hx hb hd hl (lvp_get hq) hv hn (lvp_filter h) (fun ls2 hl2 => K p l e s m args below meth c D stt dA b hp H locs ls2 hWx hWm hS hl2)
theorem l_lv {L : Nat} {xs : Nat → Int32} {pc : Nat} {lv : List (Nat × Value)} {st : List Value} {Mx Mm : Mem} {lv' : List (Nat × Value)} (ks : List Nat) (h : lv_pick lv ks = lv') (K : JL L xs pc lv' st Mx Mm) : JL L xs pc lv st Mx Mm := by
  intro p l e s m args below meth c D stt dA b hp H locs ls hWx hWm hS hl
  obtain ⟨hx, hb, hr, hml, hown, hts, hlk, hargs, hX, hbl, hC⟩ := id hp
  refine K p l e s m args below meth c D stt dA b hp H locs ls hWx hWm hS (lv_sub hl ks ?_)
  subst h
  unfold lv_pick
  rw [List.map_filterMap]
  congr 1
  funext k
  simp
theorem l_goto {L : Nat} {xs : Nat → Int32} {pc : Nat} {lv : List (Nat × Value)} {st : List Value} {Mx Mm : Mem} {off : Int} {tgt : Nat} (hd : decode code pc = .ok (.goto off, 3)) (ht : (pc : Int) + off = (tgt : Int)) (K : JL L xs tgt lv st Mx Mm) : JL L xs pc lv st Mx Mm := by
  intro p l e s m args below meth c D stt dA b hp H locs ls hWx hWm hS hl
  obtain ⟨hx, hb, hr, hml, hown, hts, hlk, hargs, hX, hbl, hC⟩ := id hp
  exact lv_goto hx hb hd ht (K p l e s m args below meth c D stt dA b hp H locs ls hWx hWm hS hl)
theorem l_gt_split {L : Nat} {xs : Nat → Int32} {pc : Nat} {lv : List (Nat × Value)} {st : List Value} {Mx Mm : Mem} {x y : Int32} {off : Int} {tgt : Nat} (hd : decode code pc = .ok (.if_icmp .gt off, 3)) (ht : (pc : Int) + off = (tgt : Int)) (K1 : y < x → JL L xs tgt lv st Mx Mm) (K2 : ¬ y < x → JL L xs (pc + 3) lv st Mx Mm) : JL L xs pc lv (.int y :: .int x :: st) Mx Mm := by
  intro p l e s m args below meth c D stt dA b hp H locs ls hWx hWm hS hl
  obtain ⟨hx, hb, hr, hml, hown, hts, hlk, hargs, hX, hbl, hC⟩ := id hp
  exact lv_icmp_gt hx hb hd ht (fun h => (K1 h p l e s m args below meth c D stt dA b hp H locs ls hWx hWm hS hl)) (fun h => (K2 h p l e s m args below meth c D stt dA b hp H locs ls hWx hWm hS hl))
theorem l_eq_t {L : Nat} {xs : Nat → Int32} {pc : Nat} {lv : List (Nat × Value)} {st : List Value} {Mx Mm : Mem} {x : Int32} {off : Int} {tgt : Nat} (hd : decode code pc = .ok (.if_icmp .eq off, 3)) (ht : (pc : Int) + off = (tgt : Int)) (K : JL L xs tgt lv st Mx Mm) : JL L xs pc lv (.int x :: .int x :: st) Mx Mm := by
  intro p l e s m args below meth c D stt dA b hp H locs ls hWx hWm hS hl
  obtain ⟨hx, hb, hr, hml, hown, hts, hlk, hargs, hX, hbl, hC⟩ := id hp
  exact lv_icmp_eq hx hb hd ht (fun _ => (K p l e s m args below meth c D stt dA b hp H locs ls hWx hWm hS hl)) (fun h => absurd rfl h)
theorem l_ifeq_t {L : Nat} {xs : Nat → Int32} {pc : Nat} {lv : List (Nat × Value)} {st : List Value} {Mx Mm : Mem} {x : Int32} {off : Int} {tgt : Nat} (hd : decode code pc = .ok (.ifCond .eq off, 3)) (ht : (pc : Int) + off = (tgt : Int)) (h0 : x = 0) (K : JL L xs tgt lv st Mx Mm) : JL L xs pc lv (.int x :: st) Mx Mm := by
  intro p l e s m args below meth c D stt dA b hp H locs ls hWx hWm hS hl
  obtain ⟨hx, hb, hr, hml, hown, hts, hlk, hargs, hX, hbl, hC⟩ := id hp
  exact lv_if_eq hx hb hd ht (fun _ => (K p l e s m args below meth c D stt dA b hp H locs ls hWx hWm hS hl)) (fun h => absurd h0 h)
theorem l_ifeq_f {L : Nat} {xs : Nat → Int32} {pc : Nat} {lv : List (Nat × Value)} {st : List Value} {Mx Mm : Mem} {x : Int32} {off : Int} {tgt : Nat} (hd : decode code pc = .ok (.ifCond .eq off, 3)) (ht : (pc : Int) + off = (tgt : Int)) (h0 : ¬ x = 0) (K : JL L xs (pc + 3) lv st Mx Mm) : JL L xs pc lv (.int x :: st) Mx Mm := by
  intro p l e s m args below meth c D stt dA b hp H locs ls hWx hWm hS hl
  obtain ⟨hx, hb, hr, hml, hown, hts, hlk, hargs, hX, hbl, hC⟩ := id hp
  exact lv_if_eq hx hb hd ht (fun h => absurd h h0) (fun _ => (K p l e s m args below meth c D stt dA b hp H locs ls hWx hWm hS hl))
theorem l_tableIn {L : Nat} {xs : Nat → Int32} {pc : Nat} {lv : List (Nat × Value)} {st : List Value} {Mx Mm : Mem} {dflt lo hi : Int} {offs : Array Int} {len : Nat} {x : Int32} {off : Int} {tgt : Nat} (hd : decode code pc = .ok (.tableswitch dflt lo hi offs, len)) (v : Int32) (hv : x = v) (h1 : ¬ v.toInt < lo) (h2 : ¬ hi < v.toInt) (ho : offs[(v.toInt - lo).toNat]? = some off) (ht : (pc : Int) + off = (tgt : Int)) (K : JL L xs tgt lv st Mx Mm) : JL L xs pc lv (.int x :: st) Mx Mm := by
  intro p l e s m args below meth c D stt dA b hp H locs ls hWx hWm hS hl
  obtain ⟨hx, hb, hr, hml, hown, hts, hlk, hargs, hX, hbl, hC⟩ := id hp
  subst hv
  exact lv_tableIn hx hb hd h1 h2 ho ht (K p l e s m args below meth c D stt dA b hp H locs ls hWx hWm hS hl)
theorem l_tableOut {L : Nat} {xs : Nat → Int32} {pc : Nat} {lv : List (Nat × Value)} {st : List Value} {Mx Mm : Mem} {dflt lo hi : Int} {offs : Array Int} {len : Nat} {x : Int32} {tgt : Nat} (hd : decode code pc = .ok (.tableswitch dflt lo hi offs, len)) (h : x.toInt < lo ∨ hi < x.toInt) (ht : (pc : Int) + dflt = (tgt : Int)) (K : JL L xs tgt lv st Mx Mm) : JL L xs pc lv (.int x :: st) Mx Mm := by
  intro p l e s m args below meth c D stt dA b hp H locs ls hWx hWm hS hl
  obtain ⟨hx, hb, hr, hml, hown, hts, hlk, hargs, hX, hbl, hC⟩ := id hp
  exact lv_tableOut hx hb hd h ht (K p l e s m args below meth c D stt dA b hp H locs ls hWx hWm hS hl)
theorem l_alen {L : Nat} {xs : Nat → Int32} {pc : Nat} {lv : List (Nat × Value)} {st : List Value} {Mx Mm : Mem} (hd : decode code pc = .ok (.arraylength, 1)) (K : JL L xs (pc + 1) lv (.int (nI L) :: st) Mx Mm) : JL L xs pc lv (.ref 301 :: st) Mx Mm := by
  intro p l e s m args below meth c D stt dA b hp H locs ls hWx hWm hS hl
  obtain ⟨hx, hb, hr, hml, hown, hts, hlk, hargs, hX, hbl, hC⟩ := id hp
  exact va_slen hx hb hX hbl (Nat.not_le.mpr hbl) hS hd (K p l e s m args below meth c D stt dA b hp H locs ls hWx hWm hS hl)
theorem l_ald {L : Nat} {xs : Nat → Int32} {pc : Nat} {lv : List (Nat × Value)} {st : List Value} {Mx Mm : Mem} {i : Int32} (hd : decode code pc = .ok (.iaload, 1)) (hin : vp_in i L) (K : JL L xs (pc + 1) lv (.int (xs i.toNatClampNeg) :: st) Mx Mm) : JL L xs pc lv (.int i :: .ref 301 :: st) Mx Mm := by
  intro p l e s m args below meth c D stt dA b hp H locs ls hWx hWm hS hl
  obtain ⟨hx, hb, hr, hml, hown, hts, hlk, hargs, hX, hbl, hC⟩ := id hp
  exact va_sld hx hb hX hbl (Nat.not_le.mpr hbl) hS hin hd (K p l e s m args below meth c D stt dA b hp H locs ls hWx hWm hS hl)
theorem l_end {L : Nat} {xs : Nat → Int32} {pc : Nat} {lv : List (Nat × Value)} {st : List Value} {Mx Mm : Mem} (hd : decode code pc = .ok (.ireturn, 1)) : JL L xs pc lv [.int 1] Mx Mm := by
  intro p l e s m args below meth c D stt dA b hp H locs ls hWx hWm hS hl
  obtain ⟨hx, hb, hr, hml, hown, hts, hlk, hargs, hX, hbl, hC⟩ := id hp
  subst hargs
  refine va_forget (fun q hq => hS.2.2 q hq) ?_
  refine W.widen (k := 600000) (n := 7302250) (Nat.le_of_ble_eq_true rfl) (Nat.le_of_ble_eq_true rfl) ?_
  exact lw_ret hx hb hr hlk hd
theorem adB_hi {base : Nat} {stt : Nat → Nat} {k : Nat} (h : 200 ≤ k) : adB base stt k = stt k := by unfold adB; rw [if_neg (by omega)]
theorem Cx.shift {D : va_G} {ad ad' : Nat → Nat} {dA : Nat → ClassId} {A B : Nat → Prop} {U : State} {H : Heap} (h : Cx D ad dA A U H) (hAB : ∀ q, B q → A q) (he : ∀ k, 200 ≤ k → ad' k = ad k) : Cx D ad' dA B U H := by
  obtain ⟨h1, h2, h3, h4, h5, h6, h7, h8, h9, h10, h11⟩ := h
  have e0 := he 200 (by omega)
  have e1 := he 201 (by omega)
  have e2 := he 230 (by omega)
  have f1 : (fun i => ad' (210 + i)) = fun i => ad (210 + i) := funext fun i => he _ (by omega)
  have f2 : (fun i => ad' (220 + i)) = fun i => ad (220 + i) := funext fun i => he _ (by omega)
  unfold Cx
  rw [e0, e1, e2, f1, f2]
  exact ⟨h1, h2.narrow hAB, h3.narrow hAB, h4.narrow hAB, h5.narrow hAB, h6.narrow hAB, fun i q hq => by rw [he _ (by omega)]; exact h7 i q hq, h8.narrow hAB, Or.imp (fun h => h.narrow hAB) (fun h => h.narrow hAB) h9, h10, h11⟩
theorem Cx.next2 {D : va_G} {ad ad' : Nat → Nat} {dA : Nat → ClassId} {A B : Nat → Prop} {s U : State} {H : Heap} {locs : List Loc} (h0 : Cx D ad dA A s s.heap) (h : Cx D ad' dA B s s.heap) (hS : va_S A s.heap H locs) (hW : s.WarmedH U.vm) (hAB : ∀ q, B q → A q := by assumption) (he : ∀ k, 200 ≤ k → ad' k = ad k := by intro k hk; exact (adB_hi hk).trans (adB_hi hk).symm) : Cx D ad' dA B U H := (h0.next hS hW).shift hAB he
theorem Wd.off {D : va_G} {ad : Nat → Nat} {dA : Nat → ClassId} {A B : Nat → Prop} {sh : Shp} {M : Mem} {H H1 : Heap} (h : Wd D ad dA A sh M H) (hk : ∀ q : Nat, q < H.size → ¬ B q → H1[q]? = H[q]?) (hAB : ∀ q, A q → B q → False) : Wd D ad dA A sh M H1 :=
  ⟨h.1.kept (fun k q hq => hk _ ((h.1 k q hq).lt) (fun hB => hAB _ (h.2.2 k q hq) hB)), h.2⟩
section WCA
variable {p : Program} {l : Launch} {e : Env} {R : Room} {s : State} {m : MethodId} {args : Array Value} {below : List Frame} {meth : Method} {c : Code} {H : Heap} {locs : List Loc} {cells slots mc ms : Nat} {Q : State → Prop} {pc : Nat} {ls : Array Slot} {rest st0 : List Value} {a : Array Value} {A B : Nat → Prop}
theorem wr_callA {wv : Option Value} {Post : State → Prop} (hr : va_Run p l e R s m args below meth c H locs cells slots mc ms (F0 m pc ls st0) rest (Qr wv Post B a) B) (hS : va_S A s.heap H locs) (hBA : ∀ q, B q → A q)
    (kk : ∀ (t : State) (H1 : Heap) (locs1 : List Loc), t.heap = H1 → Post t → (∀ q : Nat, q < H.size → ¬ B q → H1[q]? = H[q]?) → va_S A s.heap H1 locs1 → W p l e R s m args below meth c H1 locs1 (cells + mc) (slots + ms) Q (F0 m (pc + 3) ls (wv.toList ++ rest))) : W p l e R s m args below meth c H locs cells slots Q (F0 m pc ls st0) := by
  intro T hT X
  obtain ⟨v, st₀, t, T', L, h0, X', hL, e1, e2, ⟨hv, hp, hz, hk⟩, st⟩ := hr T hT X
  cases hv
  rw [h0] at hz hk
  obtain ⟨t2, a1, b1⟩ := kk t T'.heap (locs ++ L) e1.symm hp (fun q h1 h2 => by rw [e1]; exact hk q h1 h2)
    ⟨Nat.le_trans hS.1 (by rw [e1]; exact hz), fun q h1 h2 => by rw [e1, hk q (Nat.lt_of_lt_of_le h1 hS.1) (fun z => h2 (hBA _ z))]; exact hS.2.1 q h1 h2, fun q hq => by
      rcases List.mem_append.mp hq with h | h
      · exact hS.2.2 q h
      · exact hBA _ (hL q h)⟩ T' rfl X'
  exact ⟨t2, st t2 a1, b1⟩
end WCA
theorem l_callX {L : Nat} {xs : Nat → Int32} {pc : Nat} {lv : List (Nat × Value)} {st : List Value} {Mx Mm : Mem} {mt2 : Mt} {F2 : Option (Int32 × Mem)} {y : MethodName} {idx n : Nat} {as : List Value} {r : Int32} {M2 : Mem} (hd : decode code pc = .ok (.invokevirtual idx, 3)) (hct : Ct y mt2 wI (.ref 0 :: as) Mx F2) (hF : F2 = some (r, M2)) (hw : CV R_law idx y) (hcd : Cond.code y mt2.2.1 mt2.2.2.1 mt2.2.2.2.1 ∈ tbl) (hdn : Dn y n) (hn : as.length = n) (hsh : mt2.2.2.2.2.2 = SHx) (hdp : mt2.2.2.2.2.1 ≤ 100) (hmx : mt2.2.2.1 ≤ 40) (hst : (st.map fun v => v.category).sum ≤ 8) (hcy : y.cls = "ShakeHands") (hnr : ∀ (f g : Nat → Nat), as.map (rv f) = as.map (rv g)) (K : JL L xs (pc + 3) lv (.int r :: st) M2 Mm) : JL L xs pc lv (as.reverse ++ .ref 0 :: st) Mx Mm := by
  intro p l e s m args below meth c D stt dA b hp H locs ls hWx hWm hS hl
  obtain ⟨hx, hb, hr, hml, hown, hts, hlk, hargs, hX, hbl, hC⟩ := id hp
  have hA : ∀ q, Ax s.heap.size q → s.heap.size ≤ q := fun q h => h.1
  have hCx : Cx D (adB s.heap.size stt) dA (Ax s.heap.size) s s.heap := hC.shift hA (fun k hk => (adB_hi hk).trans (adB_hi hk).symm)
  have hM := hct r M2 hF l D (adB s.heap.size stt) dA (Ax s.heap.size)
  have hR : (rmd mt2.2.2.2.2.1).frames + 1 ≤ room_1.frames ∧ 8 + (mt2.2.2.1 + 11) + (rmd mt2.2.2.2.2.1).locals ≤ room_1.locals := by
    refine ⟨?_, ?_⟩
    · show mt2.2.2.2.2.1 + 1 ≤ 2048
      omega
    · show 8 + (mt2.2.2.1 + 11) + 64 * mt2.2.2.2.2.1 ≤ 84000
      omega
  have hSA : ∀ (H : Heap) (locs : List Loc), va_S (fun q => s.heap.size ≤ q) s.heap H locs → True := fun _ _ _ => trivial
  obtain ⟨hPx, hDx⟩ := hWx
  have ha0 : adL s.heap.size b 0 = adB s.heap.size stt 0 := rfl
  refine wr_callA (wv := some (.int r)) (rest := st.map (rv (adL s.heap.size b))) (va_runV (As := as.map (rv (adB s.heap.size stt))) (b := adB s.heap.size stt 0) (C := y.cls) (Ts := tbl) ⟨hx, hb, hml, hown, hts⟩ hM ⟨callB_of n hts (good_cons hcd) rfl rfl rfl (hts _ hw.2.2.2) (hts _ hw.1) hdn hR, hts _ hw.2.1, hts _ hw.2.2.1⟩ ⟨ct_blind, by rw [hcy]; exact va_recv hC.1 hPx (ci := 8) rfl (lay_obj sx_0 (by decide)), fun U hU hW => ⟨rfl, by rw [hU, hsh]; exact ⟨hPx, hDx⟩, by rw [hU]; exact Cx.next2 hC hCx hS hW⟩⟩ rfl (by rw [List.length_map]; exact hn) hl.1 ?_ (lv_room (by rw [rv_cats]; exact hst)) hd ⟨Nat.le_of_ble_eq_true rfl, Nat.le_of_ble_eq_true rfl⟩) hS hA (fun t H1 locs1 ht hpost hk1 hS1 => ?_)
  · show (as.reverse ++ .ref 0 :: st).map (rv (adL s.heap.size b)) = (as.map (rv (adB s.heap.size stt))).reverse ++ .ref (adB s.heap.size stt 0) :: st.map (rv (adL s.heap.size b))
    rw [List.map_append, List.map_reverse, hnr (adL s.heap.size b) (adB s.heap.size stt), List.map_cons]
    rfl
  obtain ⟨hP1, hD1⟩ := hpost
  rw [ht] at hP1
  rw [hsh] at hP1 hD1
  have hoff := Wd.off (H1 := H1) hWm hk1 (fun q h1 h2 => by have := h1.1; have := h2.1; have := h1.2; have := h2.2; omega)
  exact K p l e s m args below meth c D stt dA b hp H1 locs1 ls ⟨hP1, hD1⟩ hoff hS1 hl
theorem l_callM {L : Nat} {xs : Nat → Int32} {pc : Nat} {lv : List (Nat × Value)} {st : List Value} {Mx Mm : Mem} {mt2 : Mt} {F2 : Option (Int32 × Mem)} {y : MethodName} {idx n : Nat} {as : List Value} {r : Int32} {M2 : Mem} (hd : decode code pc = .ok (.invokevirtual idx, 3)) (hct : Ct y mt2 wI (.ref 0 :: as) Mm F2) (hF : F2 = some (r, M2)) (hw : CV R_law idx y) (hcd : Cond.code y mt2.2.1 mt2.2.2.1 mt2.2.2.2.1 ∈ tbl) (hdn : Dn y n) (hn : as.length = n) (hsh : mt2.2.2.2.2.2 = SHm) (hdp : mt2.2.2.2.2.1 ≤ 100) (hmx : mt2.2.2.1 ≤ 40) (hst : (st.map fun v => v.category).sum ≤ 8) (hcy : y.cls = "ShakeHandsModel") (hnr : ∀ (f g : Nat → Nat), as.map (rv f) = as.map (rv g)) (K : JL L xs (pc + 3) lv (.int r :: st) Mx M2) : JL L xs pc lv (as.reverse ++ .ref 300 :: st) Mx Mm := by
  intro p l e s m args below meth c D stt dA b hp H locs ls hWx hWm hS hl
  obtain ⟨hx, hb, hr, hml, hown, hts, hlk, hargs, hX, hbl, hC⟩ := id hp
  have hA : ∀ q, Am s.heap.size q → s.heap.size ≤ q := fun q h => by have := h.1; omega
  have hCx : Cx D (adB (s.heap.size + 50) stt) dA (Am s.heap.size) s s.heap := hC.shift hA (fun k hk => (adB_hi hk).trans (adB_hi hk).symm)
  have hM := hct r M2 hF l D (adB (s.heap.size + 50) stt) dA (Am s.heap.size)
  have hR : (rmd mt2.2.2.2.2.1).frames + 1 ≤ room_1.frames ∧ 8 + (mt2.2.2.1 + 11) + (rmd mt2.2.2.2.2.1).locals ≤ room_1.locals := by
    refine ⟨?_, ?_⟩
    · show mt2.2.2.2.2.1 + 1 ≤ 2048
      omega
    · show 8 + (mt2.2.2.1 + 11) + 64 * mt2.2.2.2.2.1 ≤ 84000
      omega
  have hSA : ∀ (H : Heap) (locs : List Loc), va_S (fun q => s.heap.size ≤ q) s.heap H locs → True := fun _ _ _ => trivial
  obtain ⟨hPx, hDx⟩ := hWm
  have ha0 : adL s.heap.size b 300 = adB (s.heap.size + 50) stt 0 := rfl
  refine wr_callA (wv := some (.int r)) (rest := st.map (rv (adL s.heap.size b))) (va_runV (As := as.map (rv (adB (s.heap.size + 50) stt))) (b := adB (s.heap.size + 50) stt 0) (C := y.cls) (Ts := tbl) ⟨hx, hb, hml, hown, hts⟩ hM ⟨callB_of n hts (good_cons hcd) rfl rfl rfl (hts _ hw.2.2.2) (hts _ hw.1) hdn hR, hts _ hw.2.1, hts _ hw.2.2.1⟩ ⟨ct_blind, by rw [hcy]; exact va_recv hC.1 hPx (ci := 9) rfl (lay_obj sm_0 (by decide)), fun U hU hW => ⟨rfl, by rw [hU, hsh]; exact ⟨hPx, hDx⟩, by rw [hU]; exact Cx.next2 hC hCx hS hW⟩⟩ rfl (by rw [List.length_map]; exact hn) hl.1 ?_ (lv_room (by rw [rv_cats]; exact hst)) hd ⟨Nat.le_of_ble_eq_true rfl, Nat.le_of_ble_eq_true rfl⟩) hS hA (fun t H1 locs1 ht hpost hk1 hS1 => ?_)
  · show (as.reverse ++ .ref 300 :: st).map (rv (adL s.heap.size b)) = (as.map (rv (adB (s.heap.size + 50) stt))).reverse ++ .ref (adB (s.heap.size + 50) stt 0) :: st.map (rv (adL s.heap.size b))
    rw [List.map_append, List.map_reverse, hnr (adL s.heap.size b) (adB (s.heap.size + 50) stt), List.map_cons]
    rfl
  obtain ⟨hP1, hD1⟩ := hpost
  rw [ht] at hP1
  rw [hsh] at hP1 hD1
  have hoff := Wd.off (H1 := H1) hWx hk1 (fun q h1 h2 => by have := h1.1; have := h2.1; have := h1.2; have := h2.2; omega)
  exact K p l e s m args below meth c D stt dA b hp H1 locs1 ls hoff ⟨hP1, hD1⟩ hS1 hl
theorem d_law_0 : decode code 0 = .ok (.new 7, 3) := by decide +kernel
theorem d_law_3 : decode code 3 = .ok (.dup, 1) := by decide +kernel
theorem d_law_4 : decode code 4 = .ok (.invokespecial 9, 3) := by decide +kernel
theorem d_law_7 : decode code 7 = .ok (.astore_n 1, 1) := by decide +kernel
theorem d_law_8 : decode code 8 = .ok (.new 10, 3) := by decide +kernel
theorem d_law_11 : decode code 11 = .ok (.dup, 1) := by decide +kernel
theorem d_law_12 : decode code 12 = .ok (.invokespecial 12, 3) := by decide +kernel
theorem d_law_15 : decode code 15 = .ok (.astore_n 2, 1) := by decide +kernel
theorem d_law_16 : decode code 16 = .ok (.iconst 0, 1) := by decide +kernel
theorem d_law_17 : decode code 17 = .ok (.istore_n 3, 1) := by decide +kernel
theorem d_law_18 : decode code 18 = .ok (.iload_n 3, 1) := by decide +kernel
theorem d_law_19 : decode code 19 = .ok (.aload_n 0, 1) := by decide +kernel
theorem d_law_20 : decode code 20 = .ok (.arraylength, 1) := by decide +kernel
theorem d_law_21 : decode code 21 = .ok (.iconst 5, 1) := by decide +kernel
theorem d_law_22 : decode code 22 = .ok (.isub, 1) := by decide +kernel
theorem d_law_23 : decode code 23 = .ok (.if_icmp .gt 1312, 3) := by decide +kernel
theorem d_law_26 : decode code 26 = .ok (.aload_n 0, 1) := by decide +kernel
theorem d_law_27 : decode code 27 = .ok (.iload_n 3, 1) := by decide +kernel
theorem d_law_28 : decode code 28 = .ok (.iaload, 1) := by decide +kernel
theorem d_law_29 : decode code 29 = .ok (.bipush 63, 2) := by decide +kernel
theorem d_law_31 : decode code 31 = .ok (.iand, 1) := by decide +kernel
theorem d_law_32 : decode code 32 = .ok (.tableswitch 1297 0 36 #[164, 217, 240, 253, 266, 289, 338, 371, 394, 427, 450, 483, 516, 565, 598, 621, 654, 677, 710, 763, 806, 829, 852, 875, 898, 931, 944, 977, 990, 1033, 1076, 1099, 1122, 1165, 1208, 1261, 1274], 164) := by decide +kernel
theorem d_law_196 : decode code 196 = .ok (.aload_n 1, 1) := by decide +kernel
theorem d_law_197 : decode code 197 = .ok (.aload_n 0, 1) := by decide +kernel
theorem d_law_198 : decode code 198 = .ok (.iload_n 3, 1) := by decide +kernel
theorem d_law_199 : decode code 199 = .ok (.iconst 1, 1) := by decide +kernel
theorem d_law_200 : decode code 200 = .ok (.iadd, 1) := by decide +kernel
theorem d_law_201 : decode code 201 = .ok (.iaload, 1) := by decide +kernel
theorem d_law_202 : decode code 202 = .ok (.i2l, 1) := by decide +kernel
theorem d_law_203 : decode code 203 = .ok (.bipush 32, 2) := by decide +kernel
theorem d_law_205 : decode code 205 = .ok (.lshl, 1) := by decide +kernel
theorem d_law_206 : decode code 206 = .ok (.aload_n 0, 1) := by decide +kernel
theorem d_law_207 : decode code 207 = .ok (.iload_n 3, 1) := by decide +kernel
theorem d_law_208 : decode code 208 = .ok (.iconst 2, 1) := by decide +kernel
theorem d_law_209 : decode code 209 = .ok (.iadd, 1) := by decide +kernel
theorem d_law_210 : decode code 210 = .ok (.iaload, 1) := by decide +kernel
theorem d_law_211 : decode code 211 = .ok (.i2l, 1) := by decide +kernel
theorem d_law_212 : decode code 212 = .ok (.ldc2_w 13, 3) := by decide +kernel
theorem d_law_215 : decode code 215 = .ok (.land, 1) := by decide +kernel
theorem d_law_216 : decode code 216 = .ok (.lor, 1) := by decide +kernel
theorem d_law_217 : decode code 217 = .ok (.invokevirtual 15, 3) := by decide +kernel
theorem d_law_220 : decode code 220 = .ok (.aload_n 2, 1) := by decide +kernel
theorem d_law_221 : decode code 221 = .ok (.aload_n 0, 1) := by decide +kernel
theorem d_law_222 : decode code 222 = .ok (.iload_n 3, 1) := by decide +kernel
theorem d_law_223 : decode code 223 = .ok (.iconst 1, 1) := by decide +kernel
theorem d_law_224 : decode code 224 = .ok (.iadd, 1) := by decide +kernel
theorem d_law_225 : decode code 225 = .ok (.iaload, 1) := by decide +kernel
theorem d_law_226 : decode code 226 = .ok (.i2l, 1) := by decide +kernel
theorem d_law_227 : decode code 227 = .ok (.bipush 32, 2) := by decide +kernel
theorem d_law_229 : decode code 229 = .ok (.lshl, 1) := by decide +kernel
theorem d_law_230 : decode code 230 = .ok (.aload_n 0, 1) := by decide +kernel
theorem d_law_231 : decode code 231 = .ok (.iload_n 3, 1) := by decide +kernel
theorem d_law_232 : decode code 232 = .ok (.iconst 2, 1) := by decide +kernel
theorem d_law_233 : decode code 233 = .ok (.iadd, 1) := by decide +kernel
theorem d_law_234 : decode code 234 = .ok (.iaload, 1) := by decide +kernel
theorem d_law_235 : decode code 235 = .ok (.i2l, 1) := by decide +kernel
theorem d_law_236 : decode code 236 = .ok (.ldc2_w 13, 3) := by decide +kernel
theorem d_law_239 : decode code 239 = .ok (.land, 1) := by decide +kernel
theorem d_law_240 : decode code 240 = .ok (.lor, 1) := by decide +kernel
theorem d_law_241 : decode code 241 = .ok (.invokevirtual 19, 3) := by decide +kernel
theorem d_law_244 : decode code 244 = .ok (.if_icmp .eq 1085, 3) := by decide +kernel
theorem d_law_247 : decode code 247 = .ok (.iconst 0, 1) := by decide +kernel
theorem d_law_248 : decode code 248 = .ok (.ireturn, 1) := by decide +kernel
theorem d_law_249 : decode code 249 = .ok (.aload_n 1, 1) := by decide +kernel
theorem d_law_250 : decode code 250 = .ok (.aload_n 0, 1) := by decide +kernel
theorem d_law_251 : decode code 251 = .ok (.iload_n 3, 1) := by decide +kernel
theorem d_law_252 : decode code 252 = .ok (.iconst 1, 1) := by decide +kernel
theorem d_law_253 : decode code 253 = .ok (.iadd, 1) := by decide +kernel
theorem d_law_254 : decode code 254 = .ok (.iaload, 1) := by decide +kernel
theorem d_law_255 : decode code 255 = .ok (.invokevirtual 20, 3) := by decide +kernel
theorem d_law_258 : decode code 258 = .ok (.aload_n 2, 1) := by decide +kernel
theorem d_law_259 : decode code 259 = .ok (.aload_n 0, 1) := by decide +kernel
theorem d_law_260 : decode code 260 = .ok (.iload_n 3, 1) := by decide +kernel
theorem d_law_261 : decode code 261 = .ok (.iconst 1, 1) := by decide +kernel
theorem d_law_262 : decode code 262 = .ok (.iadd, 1) := by decide +kernel
theorem d_law_263 : decode code 263 = .ok (.iaload, 1) := by decide +kernel
theorem d_law_264 : decode code 264 = .ok (.invokevirtual 24, 3) := by decide +kernel
theorem d_law_267 : decode code 267 = .ok (.if_icmp .eq 1062, 3) := by decide +kernel
theorem d_law_270 : decode code 270 = .ok (.iconst 0, 1) := by decide +kernel
theorem d_law_271 : decode code 271 = .ok (.ireturn, 1) := by decide +kernel
theorem d_law_272 : decode code 272 = .ok (.aload_n 1, 1) := by decide +kernel
theorem d_law_273 : decode code 273 = .ok (.invokevirtual 25, 3) := by decide +kernel
theorem d_law_276 : decode code 276 = .ok (.aload_n 2, 1) := by decide +kernel
theorem d_law_277 : decode code 277 = .ok (.invokevirtual 29, 3) := by decide +kernel
theorem d_law_280 : decode code 280 = .ok (.if_icmp .eq 1049, 3) := by decide +kernel
theorem d_law_283 : decode code 283 = .ok (.iconst 0, 1) := by decide +kernel
theorem d_law_284 : decode code 284 = .ok (.ireturn, 1) := by decide +kernel
theorem d_law_285 : decode code 285 = .ok (.aload_n 1, 1) := by decide +kernel
theorem d_law_286 : decode code 286 = .ok (.invokevirtual 30, 3) := by decide +kernel
theorem d_law_289 : decode code 289 = .ok (.aload_n 2, 1) := by decide +kernel
theorem d_law_290 : decode code 290 = .ok (.invokevirtual 33, 3) := by decide +kernel
theorem d_law_293 : decode code 293 = .ok (.if_icmp .eq 1036, 3) := by decide +kernel
theorem d_law_296 : decode code 296 = .ok (.iconst 0, 1) := by decide +kernel
theorem d_law_297 : decode code 297 = .ok (.ireturn, 1) := by decide +kernel
theorem d_law_298 : decode code 298 = .ok (.aload_n 1, 1) := by decide +kernel
theorem d_law_299 : decode code 299 = .ok (.aload_n 0, 1) := by decide +kernel
theorem d_law_300 : decode code 300 = .ok (.iload_n 3, 1) := by decide +kernel
theorem d_law_301 : decode code 301 = .ok (.iconst 1, 1) := by decide +kernel
theorem d_law_302 : decode code 302 = .ok (.iadd, 1) := by decide +kernel
theorem d_law_303 : decode code 303 = .ok (.iaload, 1) := by decide +kernel
theorem d_law_304 : decode code 304 = .ok (.invokevirtual 34, 3) := by decide +kernel
theorem d_law_307 : decode code 307 = .ok (.aload_n 2, 1) := by decide +kernel
theorem d_law_308 : decode code 308 = .ok (.aload_n 0, 1) := by decide +kernel
theorem d_law_309 : decode code 309 = .ok (.iload_n 3, 1) := by decide +kernel
theorem d_law_310 : decode code 310 = .ok (.iconst 1, 1) := by decide +kernel
theorem d_law_311 : decode code 311 = .ok (.iadd, 1) := by decide +kernel
theorem d_law_312 : decode code 312 = .ok (.iaload, 1) := by decide +kernel
theorem d_law_313 : decode code 313 = .ok (.invokevirtual 37, 3) := by decide +kernel
theorem d_law_316 : decode code 316 = .ok (.if_icmp .eq 1013, 3) := by decide +kernel
theorem d_law_319 : decode code 319 = .ok (.iconst 0, 1) := by decide +kernel
theorem d_law_320 : decode code 320 = .ok (.ireturn, 1) := by decide +kernel
theorem d_law_321 : decode code 321 = .ok (.aload_n 1, 1) := by decide +kernel
theorem d_law_322 : decode code 322 = .ok (.aload_n 0, 1) := by decide +kernel
theorem d_law_323 : decode code 323 = .ok (.iload_n 3, 1) := by decide +kernel
theorem d_law_324 : decode code 324 = .ok (.iconst 1, 1) := by decide +kernel
theorem d_law_325 : decode code 325 = .ok (.iadd, 1) := by decide +kernel
theorem d_law_326 : decode code 326 = .ok (.iaload, 1) := by decide +kernel
theorem d_law_327 : decode code 327 = .ok (.aload_n 0, 1) := by decide +kernel
theorem d_law_328 : decode code 328 = .ok (.iload_n 3, 1) := by decide +kernel
theorem d_law_329 : decode code 329 = .ok (.iconst 2, 1) := by decide +kernel
theorem d_law_330 : decode code 330 = .ok (.iadd, 1) := by decide +kernel
theorem d_law_331 : decode code 331 = .ok (.iaload, 1) := by decide +kernel
theorem d_law_332 : decode code 332 = .ok (.ifCond .eq 7, 3) := by decide +kernel
theorem d_law_335 : decode code 335 = .ok (.iconst 1, 1) := by decide +kernel
theorem d_law_336 : decode code 336 = .ok (.goto 4, 3) := by decide +kernel
theorem d_law_339 : decode code 339 = .ok (.iconst 0, 1) := by decide +kernel
theorem d_law_340 : decode code 340 = .ok (.invokevirtual 38, 3) := by decide +kernel
theorem d_law_343 : decode code 343 = .ok (.aload_n 2, 1) := by decide +kernel
theorem d_law_344 : decode code 344 = .ok (.aload_n 0, 1) := by decide +kernel
theorem d_law_345 : decode code 345 = .ok (.iload_n 3, 1) := by decide +kernel
theorem d_law_346 : decode code 346 = .ok (.iconst 1, 1) := by decide +kernel
theorem d_law_347 : decode code 347 = .ok (.iadd, 1) := by decide +kernel
theorem d_law_348 : decode code 348 = .ok (.iaload, 1) := by decide +kernel
theorem d_law_349 : decode code 349 = .ok (.aload_n 0, 1) := by decide +kernel
theorem d_law_350 : decode code 350 = .ok (.iload_n 3, 1) := by decide +kernel
theorem d_law_351 : decode code 351 = .ok (.iconst 2, 1) := by decide +kernel
theorem d_law_352 : decode code 352 = .ok (.iadd, 1) := by decide +kernel
theorem d_law_353 : decode code 353 = .ok (.iaload, 1) := by decide +kernel
theorem d_law_354 : decode code 354 = .ok (.ifCond .eq 7, 3) := by decide +kernel
theorem d_law_357 : decode code 357 = .ok (.iconst 1, 1) := by decide +kernel
theorem d_law_358 : decode code 358 = .ok (.goto 4, 3) := by decide +kernel
theorem d_law_361 : decode code 361 = .ok (.iconst 0, 1) := by decide +kernel
theorem d_law_362 : decode code 362 = .ok (.invokevirtual 42, 3) := by decide +kernel
theorem d_law_365 : decode code 365 = .ok (.if_icmp .eq 964, 3) := by decide +kernel
theorem d_law_368 : decode code 368 = .ok (.iconst 0, 1) := by decide +kernel
theorem d_law_369 : decode code 369 = .ok (.ireturn, 1) := by decide +kernel
theorem d_law_370 : decode code 370 = .ok (.aload_n 1, 1) := by decide +kernel
theorem d_law_371 : decode code 371 = .ok (.aload_n 0, 1) := by decide +kernel
theorem d_law_372 : decode code 372 = .ok (.iload_n 3, 1) := by decide +kernel
theorem d_law_373 : decode code 373 = .ok (.iconst 1, 1) := by decide +kernel
theorem d_law_374 : decode code 374 = .ok (.iadd, 1) := by decide +kernel
theorem d_law_375 : decode code 375 = .ok (.iaload, 1) := by decide +kernel
theorem d_law_376 : decode code 376 = .ok (.aload_n 0, 1) := by decide +kernel
theorem d_law_377 : decode code 377 = .ok (.iload_n 3, 1) := by decide +kernel
theorem d_law_378 : decode code 378 = .ok (.iconst 2, 1) := by decide +kernel
theorem d_law_379 : decode code 379 = .ok (.iadd, 1) := by decide +kernel
theorem d_law_380 : decode code 380 = .ok (.iaload, 1) := by decide +kernel
theorem d_law_381 : decode code 381 = .ok (.invokevirtual 43, 3) := by decide +kernel
theorem d_law_384 : decode code 384 = .ok (.aload_n 2, 1) := by decide +kernel
theorem d_law_385 : decode code 385 = .ok (.aload_n 0, 1) := by decide +kernel
theorem d_law_386 : decode code 386 = .ok (.iload_n 3, 1) := by decide +kernel
theorem d_law_387 : decode code 387 = .ok (.iconst 1, 1) := by decide +kernel
theorem d_law_388 : decode code 388 = .ok (.iadd, 1) := by decide +kernel
theorem d_law_389 : decode code 389 = .ok (.iaload, 1) := by decide +kernel
theorem d_law_390 : decode code 390 = .ok (.aload_n 0, 1) := by decide +kernel
theorem d_law_391 : decode code 391 = .ok (.iload_n 3, 1) := by decide +kernel
theorem d_law_392 : decode code 392 = .ok (.iconst 2, 1) := by decide +kernel
theorem d_law_393 : decode code 393 = .ok (.iadd, 1) := by decide +kernel
theorem d_law_394 : decode code 394 = .ok (.iaload, 1) := by decide +kernel
theorem d_law_395 : decode code 395 = .ok (.invokevirtual 47, 3) := by decide +kernel
theorem d_law_398 : decode code 398 = .ok (.if_icmp .eq 931, 3) := by decide +kernel
theorem d_law_401 : decode code 401 = .ok (.iconst 0, 1) := by decide +kernel
theorem d_law_402 : decode code 402 = .ok (.ireturn, 1) := by decide +kernel
theorem d_law_403 : decode code 403 = .ok (.aload_n 1, 1) := by decide +kernel
theorem d_law_404 : decode code 404 = .ok (.aload_n 0, 1) := by decide +kernel
theorem d_law_405 : decode code 405 = .ok (.iload_n 3, 1) := by decide +kernel
theorem d_law_406 : decode code 406 = .ok (.iconst 1, 1) := by decide +kernel
theorem d_law_407 : decode code 407 = .ok (.iadd, 1) := by decide +kernel
theorem d_law_408 : decode code 408 = .ok (.iaload, 1) := by decide +kernel
theorem d_law_409 : decode code 409 = .ok (.invokevirtual 48, 3) := by decide +kernel
theorem d_law_412 : decode code 412 = .ok (.aload_n 2, 1) := by decide +kernel
theorem d_law_413 : decode code 413 = .ok (.aload_n 0, 1) := by decide +kernel
theorem d_law_414 : decode code 414 = .ok (.iload_n 3, 1) := by decide +kernel
theorem d_law_415 : decode code 415 = .ok (.iconst 1, 1) := by decide +kernel
theorem d_law_416 : decode code 416 = .ok (.iadd, 1) := by decide +kernel
theorem d_law_417 : decode code 417 = .ok (.iaload, 1) := by decide +kernel
theorem d_law_418 : decode code 418 = .ok (.invokevirtual 51, 3) := by decide +kernel
theorem d_law_421 : decode code 421 = .ok (.if_icmp .eq 908, 3) := by decide +kernel
theorem d_law_424 : decode code 424 = .ok (.iconst 0, 1) := by decide +kernel
theorem d_law_425 : decode code 425 = .ok (.ireturn, 1) := by decide +kernel
theorem d_law_426 : decode code 426 = .ok (.aload_n 1, 1) := by decide +kernel
theorem d_law_427 : decode code 427 = .ok (.aload_n 0, 1) := by decide +kernel
theorem d_law_428 : decode code 428 = .ok (.iload_n 3, 1) := by decide +kernel
theorem d_law_429 : decode code 429 = .ok (.iconst 1, 1) := by decide +kernel
theorem d_law_430 : decode code 430 = .ok (.iadd, 1) := by decide +kernel
theorem d_law_431 : decode code 431 = .ok (.iaload, 1) := by decide +kernel
theorem d_law_432 : decode code 432 = .ok (.aload_n 0, 1) := by decide +kernel
theorem d_law_433 : decode code 433 = .ok (.iload_n 3, 1) := by decide +kernel
theorem d_law_434 : decode code 434 = .ok (.iconst 2, 1) := by decide +kernel
theorem d_law_435 : decode code 435 = .ok (.iadd, 1) := by decide +kernel
theorem d_law_436 : decode code 436 = .ok (.iaload, 1) := by decide +kernel
theorem d_law_437 : decode code 437 = .ok (.invokevirtual 52, 3) := by decide +kernel
theorem d_law_440 : decode code 440 = .ok (.aload_n 2, 1) := by decide +kernel
theorem d_law_441 : decode code 441 = .ok (.aload_n 0, 1) := by decide +kernel
theorem d_law_442 : decode code 442 = .ok (.iload_n 3, 1) := by decide +kernel
theorem d_law_443 : decode code 443 = .ok (.iconst 1, 1) := by decide +kernel
theorem d_law_444 : decode code 444 = .ok (.iadd, 1) := by decide +kernel
theorem d_law_445 : decode code 445 = .ok (.iaload, 1) := by decide +kernel
theorem d_law_446 : decode code 446 = .ok (.aload_n 0, 1) := by decide +kernel
theorem d_law_447 : decode code 447 = .ok (.iload_n 3, 1) := by decide +kernel
theorem d_law_448 : decode code 448 = .ok (.iconst 2, 1) := by decide +kernel
theorem d_law_449 : decode code 449 = .ok (.iadd, 1) := by decide +kernel
theorem d_law_450 : decode code 450 = .ok (.iaload, 1) := by decide +kernel
theorem d_law_451 : decode code 451 = .ok (.invokevirtual 55, 3) := by decide +kernel
theorem d_law_454 : decode code 454 = .ok (.if_icmp .eq 875, 3) := by decide +kernel
theorem d_law_457 : decode code 457 = .ok (.iconst 0, 1) := by decide +kernel
theorem d_law_458 : decode code 458 = .ok (.ireturn, 1) := by decide +kernel
theorem d_law_459 : decode code 459 = .ok (.aload_n 1, 1) := by decide +kernel
theorem d_law_460 : decode code 460 = .ok (.aload_n 0, 1) := by decide +kernel
theorem d_law_461 : decode code 461 = .ok (.iload_n 3, 1) := by decide +kernel
theorem d_law_462 : decode code 462 = .ok (.iconst 1, 1) := by decide +kernel
theorem d_law_463 : decode code 463 = .ok (.iadd, 1) := by decide +kernel
theorem d_law_464 : decode code 464 = .ok (.iaload, 1) := by decide +kernel
theorem d_law_465 : decode code 465 = .ok (.invokevirtual 56, 3) := by decide +kernel
theorem d_law_468 : decode code 468 = .ok (.aload_n 2, 1) := by decide +kernel
theorem d_law_469 : decode code 469 = .ok (.aload_n 0, 1) := by decide +kernel
theorem d_law_470 : decode code 470 = .ok (.iload_n 3, 1) := by decide +kernel
theorem d_law_471 : decode code 471 = .ok (.iconst 1, 1) := by decide +kernel
theorem d_law_472 : decode code 472 = .ok (.iadd, 1) := by decide +kernel
theorem d_law_473 : decode code 473 = .ok (.iaload, 1) := by decide +kernel
theorem d_law_474 : decode code 474 = .ok (.invokevirtual 59, 3) := by decide +kernel
theorem d_law_477 : decode code 477 = .ok (.if_icmp .eq 852, 3) := by decide +kernel
theorem d_law_480 : decode code 480 = .ok (.iconst 0, 1) := by decide +kernel
theorem d_law_481 : decode code 481 = .ok (.ireturn, 1) := by decide +kernel
theorem d_law_482 : decode code 482 = .ok (.aload_n 1, 1) := by decide +kernel
theorem d_law_483 : decode code 483 = .ok (.aload_n 0, 1) := by decide +kernel
theorem d_law_484 : decode code 484 = .ok (.iload_n 3, 1) := by decide +kernel
theorem d_law_485 : decode code 485 = .ok (.iconst 1, 1) := by decide +kernel
theorem d_law_486 : decode code 486 = .ok (.iadd, 1) := by decide +kernel
theorem d_law_487 : decode code 487 = .ok (.iaload, 1) := by decide +kernel
theorem d_law_488 : decode code 488 = .ok (.aload_n 0, 1) := by decide +kernel
theorem d_law_489 : decode code 489 = .ok (.iload_n 3, 1) := by decide +kernel
theorem d_law_490 : decode code 490 = .ok (.iconst 2, 1) := by decide +kernel
theorem d_law_491 : decode code 491 = .ok (.iadd, 1) := by decide +kernel
theorem d_law_492 : decode code 492 = .ok (.iaload, 1) := by decide +kernel
theorem d_law_493 : decode code 493 = .ok (.invokevirtual 60, 3) := by decide +kernel
theorem d_law_496 : decode code 496 = .ok (.aload_n 2, 1) := by decide +kernel
theorem d_law_497 : decode code 497 = .ok (.aload_n 0, 1) := by decide +kernel
theorem d_law_498 : decode code 498 = .ok (.iload_n 3, 1) := by decide +kernel
theorem d_law_499 : decode code 499 = .ok (.iconst 1, 1) := by decide +kernel
theorem d_law_500 : decode code 500 = .ok (.iadd, 1) := by decide +kernel
theorem d_law_501 : decode code 501 = .ok (.iaload, 1) := by decide +kernel
theorem d_law_502 : decode code 502 = .ok (.aload_n 0, 1) := by decide +kernel
theorem d_law_503 : decode code 503 = .ok (.iload_n 3, 1) := by decide +kernel
theorem d_law_504 : decode code 504 = .ok (.iconst 2, 1) := by decide +kernel
theorem d_law_505 : decode code 505 = .ok (.iadd, 1) := by decide +kernel
theorem d_law_506 : decode code 506 = .ok (.iaload, 1) := by decide +kernel
theorem d_law_507 : decode code 507 = .ok (.invokevirtual 63, 3) := by decide +kernel
theorem d_law_510 : decode code 510 = .ok (.if_icmp .eq 819, 3) := by decide +kernel
theorem d_law_513 : decode code 513 = .ok (.iconst 0, 1) := by decide +kernel
theorem d_law_514 : decode code 514 = .ok (.ireturn, 1) := by decide +kernel
theorem d_law_515 : decode code 515 = .ok (.aload_n 1, 1) := by decide +kernel
theorem d_law_516 : decode code 516 = .ok (.aload_n 0, 1) := by decide +kernel
theorem d_law_517 : decode code 517 = .ok (.iload_n 3, 1) := by decide +kernel
theorem d_law_518 : decode code 518 = .ok (.iconst 1, 1) := by decide +kernel
theorem d_law_519 : decode code 519 = .ok (.iadd, 1) := by decide +kernel
theorem d_law_520 : decode code 520 = .ok (.iaload, 1) := by decide +kernel
theorem d_law_521 : decode code 521 = .ok (.aload_n 0, 1) := by decide +kernel
theorem d_law_522 : decode code 522 = .ok (.iload_n 3, 1) := by decide +kernel
theorem d_law_523 : decode code 523 = .ok (.iconst 2, 1) := by decide +kernel
theorem d_law_524 : decode code 524 = .ok (.iadd, 1) := by decide +kernel
theorem d_law_525 : decode code 525 = .ok (.iaload, 1) := by decide +kernel
theorem d_law_526 : decode code 526 = .ok (.invokevirtual 64, 3) := by decide +kernel
theorem d_law_529 : decode code 529 = .ok (.aload_n 2, 1) := by decide +kernel
theorem d_law_530 : decode code 530 = .ok (.aload_n 0, 1) := by decide +kernel
theorem d_law_531 : decode code 531 = .ok (.iload_n 3, 1) := by decide +kernel
theorem d_law_532 : decode code 532 = .ok (.iconst 1, 1) := by decide +kernel
theorem d_law_533 : decode code 533 = .ok (.iadd, 1) := by decide +kernel
theorem d_law_534 : decode code 534 = .ok (.iaload, 1) := by decide +kernel
theorem d_law_535 : decode code 535 = .ok (.aload_n 0, 1) := by decide +kernel
theorem d_law_536 : decode code 536 = .ok (.iload_n 3, 1) := by decide +kernel
theorem d_law_537 : decode code 537 = .ok (.iconst 2, 1) := by decide +kernel
theorem d_law_538 : decode code 538 = .ok (.iadd, 1) := by decide +kernel
theorem d_law_539 : decode code 539 = .ok (.iaload, 1) := by decide +kernel
theorem d_law_540 : decode code 540 = .ok (.invokevirtual 67, 3) := by decide +kernel
theorem d_law_543 : decode code 543 = .ok (.if_icmp .eq 786, 3) := by decide +kernel
theorem d_law_546 : decode code 546 = .ok (.iconst 0, 1) := by decide +kernel
theorem d_law_547 : decode code 547 = .ok (.ireturn, 1) := by decide +kernel
theorem d_law_548 : decode code 548 = .ok (.aload_n 1, 1) := by decide +kernel
theorem d_law_549 : decode code 549 = .ok (.aload_n 0, 1) := by decide +kernel
theorem d_law_550 : decode code 550 = .ok (.iload_n 3, 1) := by decide +kernel
theorem d_law_551 : decode code 551 = .ok (.iconst 1, 1) := by decide +kernel
theorem d_law_552 : decode code 552 = .ok (.iadd, 1) := by decide +kernel
theorem d_law_553 : decode code 553 = .ok (.iaload, 1) := by decide +kernel
theorem d_law_554 : decode code 554 = .ok (.aload_n 0, 1) := by decide +kernel
theorem d_law_555 : decode code 555 = .ok (.iload_n 3, 1) := by decide +kernel
theorem d_law_556 : decode code 556 = .ok (.iconst 2, 1) := by decide +kernel
theorem d_law_557 : decode code 557 = .ok (.iadd, 1) := by decide +kernel
theorem d_law_558 : decode code 558 = .ok (.iaload, 1) := by decide +kernel
theorem d_law_559 : decode code 559 = .ok (.ifCond .eq 7, 3) := by decide +kernel
theorem d_law_562 : decode code 562 = .ok (.iconst 1, 1) := by decide +kernel
theorem d_law_563 : decode code 563 = .ok (.goto 4, 3) := by decide +kernel
theorem d_law_566 : decode code 566 = .ok (.iconst 0, 1) := by decide +kernel
theorem d_law_567 : decode code 567 = .ok (.invokevirtual 68, 3) := by decide +kernel
theorem d_law_570 : decode code 570 = .ok (.aload_n 2, 1) := by decide +kernel
theorem d_law_571 : decode code 571 = .ok (.aload_n 0, 1) := by decide +kernel
theorem d_law_572 : decode code 572 = .ok (.iload_n 3, 1) := by decide +kernel
theorem d_law_573 : decode code 573 = .ok (.iconst 1, 1) := by decide +kernel
theorem d_law_574 : decode code 574 = .ok (.iadd, 1) := by decide +kernel
theorem d_law_575 : decode code 575 = .ok (.iaload, 1) := by decide +kernel
theorem d_law_576 : decode code 576 = .ok (.aload_n 0, 1) := by decide +kernel
theorem d_law_577 : decode code 577 = .ok (.iload_n 3, 1) := by decide +kernel
theorem d_law_578 : decode code 578 = .ok (.iconst 2, 1) := by decide +kernel
theorem d_law_579 : decode code 579 = .ok (.iadd, 1) := by decide +kernel
theorem d_law_580 : decode code 580 = .ok (.iaload, 1) := by decide +kernel
theorem d_law_581 : decode code 581 = .ok (.ifCond .eq 7, 3) := by decide +kernel
theorem d_law_584 : decode code 584 = .ok (.iconst 1, 1) := by decide +kernel
theorem d_law_585 : decode code 585 = .ok (.goto 4, 3) := by decide +kernel
theorem d_law_588 : decode code 588 = .ok (.iconst 0, 1) := by decide +kernel
theorem d_law_589 : decode code 589 = .ok (.invokevirtual 71, 3) := by decide +kernel
theorem d_law_592 : decode code 592 = .ok (.if_icmp .eq 737, 3) := by decide +kernel
theorem d_law_595 : decode code 595 = .ok (.iconst 0, 1) := by decide +kernel
theorem d_law_596 : decode code 596 = .ok (.ireturn, 1) := by decide +kernel
theorem d_law_597 : decode code 597 = .ok (.aload_n 1, 1) := by decide +kernel
theorem d_law_598 : decode code 598 = .ok (.aload_n 0, 1) := by decide +kernel
theorem d_law_599 : decode code 599 = .ok (.iload_n 3, 1) := by decide +kernel
theorem d_law_600 : decode code 600 = .ok (.iconst 1, 1) := by decide +kernel
theorem d_law_601 : decode code 601 = .ok (.iadd, 1) := by decide +kernel
theorem d_law_602 : decode code 602 = .ok (.iaload, 1) := by decide +kernel
theorem d_law_603 : decode code 603 = .ok (.aload_n 0, 1) := by decide +kernel
theorem d_law_604 : decode code 604 = .ok (.iload_n 3, 1) := by decide +kernel
theorem d_law_605 : decode code 605 = .ok (.iconst 2, 1) := by decide +kernel
theorem d_law_606 : decode code 606 = .ok (.iadd, 1) := by decide +kernel
theorem d_law_607 : decode code 607 = .ok (.iaload, 1) := by decide +kernel
theorem d_law_608 : decode code 608 = .ok (.invokevirtual 72, 3) := by decide +kernel
theorem d_law_611 : decode code 611 = .ok (.aload_n 2, 1) := by decide +kernel
theorem d_law_612 : decode code 612 = .ok (.aload_n 0, 1) := by decide +kernel
theorem d_law_613 : decode code 613 = .ok (.iload_n 3, 1) := by decide +kernel
theorem d_law_614 : decode code 614 = .ok (.iconst 1, 1) := by decide +kernel
theorem d_law_615 : decode code 615 = .ok (.iadd, 1) := by decide +kernel
theorem d_law_616 : decode code 616 = .ok (.iaload, 1) := by decide +kernel
theorem d_law_617 : decode code 617 = .ok (.aload_n 0, 1) := by decide +kernel
theorem d_law_618 : decode code 618 = .ok (.iload_n 3, 1) := by decide +kernel
theorem d_law_619 : decode code 619 = .ok (.iconst 2, 1) := by decide +kernel
theorem d_law_620 : decode code 620 = .ok (.iadd, 1) := by decide +kernel
theorem d_law_621 : decode code 621 = .ok (.iaload, 1) := by decide +kernel
theorem d_law_622 : decode code 622 = .ok (.invokevirtual 75, 3) := by decide +kernel
theorem d_law_625 : decode code 625 = .ok (.if_icmp .eq 704, 3) := by decide +kernel
theorem d_law_628 : decode code 628 = .ok (.iconst 0, 1) := by decide +kernel
theorem d_law_629 : decode code 629 = .ok (.ireturn, 1) := by decide +kernel
theorem d_law_630 : decode code 630 = .ok (.aload_n 1, 1) := by decide +kernel
theorem d_law_631 : decode code 631 = .ok (.aload_n 0, 1) := by decide +kernel
theorem d_law_632 : decode code 632 = .ok (.iload_n 3, 1) := by decide +kernel
theorem d_law_633 : decode code 633 = .ok (.iconst 1, 1) := by decide +kernel
theorem d_law_634 : decode code 634 = .ok (.iadd, 1) := by decide +kernel
theorem d_law_635 : decode code 635 = .ok (.iaload, 1) := by decide +kernel
theorem d_law_636 : decode code 636 = .ok (.invokevirtual 76, 3) := by decide +kernel
theorem d_law_639 : decode code 639 = .ok (.aload_n 2, 1) := by decide +kernel
theorem d_law_640 : decode code 640 = .ok (.aload_n 0, 1) := by decide +kernel
theorem d_law_641 : decode code 641 = .ok (.iload_n 3, 1) := by decide +kernel
theorem d_law_642 : decode code 642 = .ok (.iconst 1, 1) := by decide +kernel
theorem d_law_643 : decode code 643 = .ok (.iadd, 1) := by decide +kernel
theorem d_law_644 : decode code 644 = .ok (.iaload, 1) := by decide +kernel
theorem d_law_645 : decode code 645 = .ok (.invokevirtual 79, 3) := by decide +kernel
theorem d_law_648 : decode code 648 = .ok (.if_icmp .eq 681, 3) := by decide +kernel
theorem d_law_651 : decode code 651 = .ok (.iconst 0, 1) := by decide +kernel
theorem d_law_652 : decode code 652 = .ok (.ireturn, 1) := by decide +kernel
theorem d_law_653 : decode code 653 = .ok (.aload_n 1, 1) := by decide +kernel
theorem d_law_654 : decode code 654 = .ok (.aload_n 0, 1) := by decide +kernel
theorem d_law_655 : decode code 655 = .ok (.iload_n 3, 1) := by decide +kernel
theorem d_law_656 : decode code 656 = .ok (.iconst 1, 1) := by decide +kernel
theorem d_law_657 : decode code 657 = .ok (.iadd, 1) := by decide +kernel
theorem d_law_658 : decode code 658 = .ok (.iaload, 1) := by decide +kernel
theorem d_law_659 : decode code 659 = .ok (.aload_n 0, 1) := by decide +kernel
theorem d_law_660 : decode code 660 = .ok (.iload_n 3, 1) := by decide +kernel
theorem d_law_661 : decode code 661 = .ok (.iconst 2, 1) := by decide +kernel
theorem d_law_662 : decode code 662 = .ok (.iadd, 1) := by decide +kernel
theorem d_law_663 : decode code 663 = .ok (.iaload, 1) := by decide +kernel
theorem d_law_664 : decode code 664 = .ok (.invokevirtual 80, 3) := by decide +kernel
theorem d_law_667 : decode code 667 = .ok (.aload_n 2, 1) := by decide +kernel
theorem d_law_668 : decode code 668 = .ok (.aload_n 0, 1) := by decide +kernel
theorem d_law_669 : decode code 669 = .ok (.iload_n 3, 1) := by decide +kernel
theorem d_law_670 : decode code 670 = .ok (.iconst 1, 1) := by decide +kernel
theorem d_law_671 : decode code 671 = .ok (.iadd, 1) := by decide +kernel
theorem d_law_672 : decode code 672 = .ok (.iaload, 1) := by decide +kernel
theorem d_law_673 : decode code 673 = .ok (.aload_n 0, 1) := by decide +kernel
theorem d_law_674 : decode code 674 = .ok (.iload_n 3, 1) := by decide +kernel
theorem d_law_675 : decode code 675 = .ok (.iconst 2, 1) := by decide +kernel
theorem d_law_676 : decode code 676 = .ok (.iadd, 1) := by decide +kernel
theorem d_law_677 : decode code 677 = .ok (.iaload, 1) := by decide +kernel
theorem d_law_678 : decode code 678 = .ok (.invokevirtual 83, 3) := by decide +kernel
theorem d_law_681 : decode code 681 = .ok (.if_icmp .eq 648, 3) := by decide +kernel
theorem d_law_684 : decode code 684 = .ok (.iconst 0, 1) := by decide +kernel
theorem d_law_685 : decode code 685 = .ok (.ireturn, 1) := by decide +kernel
theorem d_law_686 : decode code 686 = .ok (.aload_n 1, 1) := by decide +kernel
theorem d_law_687 : decode code 687 = .ok (.aload_n 0, 1) := by decide +kernel
theorem d_law_688 : decode code 688 = .ok (.iload_n 3, 1) := by decide +kernel
theorem d_law_689 : decode code 689 = .ok (.iconst 1, 1) := by decide +kernel
theorem d_law_690 : decode code 690 = .ok (.iadd, 1) := by decide +kernel
theorem d_law_691 : decode code 691 = .ok (.iaload, 1) := by decide +kernel
theorem d_law_692 : decode code 692 = .ok (.invokevirtual 84, 3) := by decide +kernel
theorem d_law_695 : decode code 695 = .ok (.aload_n 2, 1) := by decide +kernel
theorem d_law_696 : decode code 696 = .ok (.aload_n 0, 1) := by decide +kernel
theorem d_law_697 : decode code 697 = .ok (.iload_n 3, 1) := by decide +kernel
theorem d_law_698 : decode code 698 = .ok (.iconst 1, 1) := by decide +kernel
theorem d_law_699 : decode code 699 = .ok (.iadd, 1) := by decide +kernel
theorem d_law_700 : decode code 700 = .ok (.iaload, 1) := by decide +kernel
theorem d_law_701 : decode code 701 = .ok (.invokevirtual 87, 3) := by decide +kernel
theorem d_law_704 : decode code 704 = .ok (.if_icmp .eq 625, 3) := by decide +kernel
theorem d_law_707 : decode code 707 = .ok (.iconst 0, 1) := by decide +kernel
theorem d_law_708 : decode code 708 = .ok (.ireturn, 1) := by decide +kernel
theorem d_law_709 : decode code 709 = .ok (.aload_n 1, 1) := by decide +kernel
theorem d_law_710 : decode code 710 = .ok (.aload_n 0, 1) := by decide +kernel
theorem d_law_711 : decode code 711 = .ok (.iload_n 3, 1) := by decide +kernel
theorem d_law_712 : decode code 712 = .ok (.iconst 1, 1) := by decide +kernel
theorem d_law_713 : decode code 713 = .ok (.iadd, 1) := by decide +kernel
theorem d_law_714 : decode code 714 = .ok (.iaload, 1) := by decide +kernel
theorem d_law_715 : decode code 715 = .ok (.aload_n 0, 1) := by decide +kernel
theorem d_law_716 : decode code 716 = .ok (.iload_n 3, 1) := by decide +kernel
theorem d_law_717 : decode code 717 = .ok (.iconst 2, 1) := by decide +kernel
theorem d_law_718 : decode code 718 = .ok (.iadd, 1) := by decide +kernel
theorem d_law_719 : decode code 719 = .ok (.iaload, 1) := by decide +kernel
theorem d_law_720 : decode code 720 = .ok (.invokevirtual 88, 3) := by decide +kernel
theorem d_law_723 : decode code 723 = .ok (.aload_n 2, 1) := by decide +kernel
theorem d_law_724 : decode code 724 = .ok (.aload_n 0, 1) := by decide +kernel
theorem d_law_725 : decode code 725 = .ok (.iload_n 3, 1) := by decide +kernel
theorem d_law_726 : decode code 726 = .ok (.iconst 1, 1) := by decide +kernel
theorem d_law_727 : decode code 727 = .ok (.iadd, 1) := by decide +kernel
theorem d_law_728 : decode code 728 = .ok (.iaload, 1) := by decide +kernel
theorem d_law_729 : decode code 729 = .ok (.aload_n 0, 1) := by decide +kernel
theorem d_law_730 : decode code 730 = .ok (.iload_n 3, 1) := by decide +kernel
theorem d_law_731 : decode code 731 = .ok (.iconst 2, 1) := by decide +kernel
theorem d_law_732 : decode code 732 = .ok (.iadd, 1) := by decide +kernel
theorem d_law_733 : decode code 733 = .ok (.iaload, 1) := by decide +kernel
theorem d_law_734 : decode code 734 = .ok (.invokevirtual 91, 3) := by decide +kernel
theorem d_law_737 : decode code 737 = .ok (.if_icmp .eq 592, 3) := by decide +kernel
theorem d_law_740 : decode code 740 = .ok (.iconst 0, 1) := by decide +kernel
theorem d_law_741 : decode code 741 = .ok (.ireturn, 1) := by decide +kernel
theorem d_law_742 : decode code 742 = .ok (.aload_n 1, 1) := by decide +kernel
theorem d_law_743 : decode code 743 = .ok (.aload_n 0, 1) := by decide +kernel
theorem d_law_744 : decode code 744 = .ok (.iload_n 3, 1) := by decide +kernel
theorem d_law_745 : decode code 745 = .ok (.iconst 1, 1) := by decide +kernel
theorem d_law_746 : decode code 746 = .ok (.iadd, 1) := by decide +kernel
theorem d_law_747 : decode code 747 = .ok (.iaload, 1) := by decide +kernel
theorem d_law_748 : decode code 748 = .ok (.aload_n 0, 1) := by decide +kernel
theorem d_law_749 : decode code 749 = .ok (.iload_n 3, 1) := by decide +kernel
theorem d_law_750 : decode code 750 = .ok (.iconst 2, 1) := by decide +kernel
theorem d_law_751 : decode code 751 = .ok (.iadd, 1) := by decide +kernel
theorem d_law_752 : decode code 752 = .ok (.iaload, 1) := by decide +kernel
theorem d_law_753 : decode code 753 = .ok (.aload_n 0, 1) := by decide +kernel
theorem d_law_754 : decode code 754 = .ok (.iload_n 3, 1) := by decide +kernel
theorem d_law_755 : decode code 755 = .ok (.iconst 3, 1) := by decide +kernel
theorem d_law_756 : decode code 756 = .ok (.iadd, 1) := by decide +kernel
theorem d_law_757 : decode code 757 = .ok (.iaload, 1) := by decide +kernel
theorem d_law_758 : decode code 758 = .ok (.aload_n 0, 1) := by decide +kernel
theorem d_law_759 : decode code 759 = .ok (.iload_n 3, 1) := by decide +kernel
theorem d_law_760 : decode code 760 = .ok (.iconst 4, 1) := by decide +kernel
theorem d_law_761 : decode code 761 = .ok (.iadd, 1) := by decide +kernel
theorem d_law_762 : decode code 762 = .ok (.iaload, 1) := by decide +kernel
theorem d_law_763 : decode code 763 = .ok (.invokevirtual 92, 3) := by decide +kernel
theorem d_law_766 : decode code 766 = .ok (.aload_n 2, 1) := by decide +kernel
theorem d_law_767 : decode code 767 = .ok (.aload_n 0, 1) := by decide +kernel
theorem d_law_768 : decode code 768 = .ok (.iload_n 3, 1) := by decide +kernel
theorem d_law_769 : decode code 769 = .ok (.iconst 1, 1) := by decide +kernel
theorem d_law_770 : decode code 770 = .ok (.iadd, 1) := by decide +kernel
theorem d_law_771 : decode code 771 = .ok (.iaload, 1) := by decide +kernel
theorem d_law_772 : decode code 772 = .ok (.aload_n 0, 1) := by decide +kernel
theorem d_law_773 : decode code 773 = .ok (.iload_n 3, 1) := by decide +kernel
theorem d_law_774 : decode code 774 = .ok (.iconst 2, 1) := by decide +kernel
theorem d_law_775 : decode code 775 = .ok (.iadd, 1) := by decide +kernel
theorem d_law_776 : decode code 776 = .ok (.iaload, 1) := by decide +kernel
theorem d_law_777 : decode code 777 = .ok (.aload_n 0, 1) := by decide +kernel
theorem d_law_778 : decode code 778 = .ok (.iload_n 3, 1) := by decide +kernel
theorem d_law_779 : decode code 779 = .ok (.iconst 3, 1) := by decide +kernel
theorem d_law_780 : decode code 780 = .ok (.iadd, 1) := by decide +kernel
theorem d_law_781 : decode code 781 = .ok (.iaload, 1) := by decide +kernel
theorem d_law_782 : decode code 782 = .ok (.aload_n 0, 1) := by decide +kernel
theorem d_law_783 : decode code 783 = .ok (.iload_n 3, 1) := by decide +kernel
theorem d_law_784 : decode code 784 = .ok (.iconst 4, 1) := by decide +kernel
theorem d_law_785 : decode code 785 = .ok (.iadd, 1) := by decide +kernel
theorem d_law_786 : decode code 786 = .ok (.iaload, 1) := by decide +kernel
theorem d_law_787 : decode code 787 = .ok (.invokevirtual 96, 3) := by decide +kernel
theorem d_law_790 : decode code 790 = .ok (.if_icmp .eq 539, 3) := by decide +kernel
theorem d_law_793 : decode code 793 = .ok (.iconst 0, 1) := by decide +kernel
theorem d_law_794 : decode code 794 = .ok (.ireturn, 1) := by decide +kernel
theorem d_law_795 : decode code 795 = .ok (.aload_n 1, 1) := by decide +kernel
theorem d_law_796 : decode code 796 = .ok (.aload_n 0, 1) := by decide +kernel
theorem d_law_797 : decode code 797 = .ok (.iload_n 3, 1) := by decide +kernel
theorem d_law_798 : decode code 798 = .ok (.iconst 1, 1) := by decide +kernel
theorem d_law_799 : decode code 799 = .ok (.iadd, 1) := by decide +kernel
theorem d_law_800 : decode code 800 = .ok (.iaload, 1) := by decide +kernel
theorem d_law_801 : decode code 801 = .ok (.aload_n 0, 1) := by decide +kernel
theorem d_law_802 : decode code 802 = .ok (.iload_n 3, 1) := by decide +kernel
theorem d_law_803 : decode code 803 = .ok (.iconst 2, 1) := by decide +kernel
theorem d_law_804 : decode code 804 = .ok (.iadd, 1) := by decide +kernel
theorem d_law_805 : decode code 805 = .ok (.iaload, 1) := by decide +kernel
theorem d_law_806 : decode code 806 = .ok (.aload_n 0, 1) := by decide +kernel
theorem d_law_807 : decode code 807 = .ok (.iload_n 3, 1) := by decide +kernel
theorem d_law_808 : decode code 808 = .ok (.iconst 3, 1) := by decide +kernel
theorem d_law_809 : decode code 809 = .ok (.iadd, 1) := by decide +kernel
theorem d_law_810 : decode code 810 = .ok (.iaload, 1) := by decide +kernel
theorem d_law_811 : decode code 811 = .ok (.invokevirtual 97, 3) := by decide +kernel
theorem d_law_814 : decode code 814 = .ok (.aload_n 2, 1) := by decide +kernel
theorem d_law_815 : decode code 815 = .ok (.aload_n 0, 1) := by decide +kernel
theorem d_law_816 : decode code 816 = .ok (.iload_n 3, 1) := by decide +kernel
theorem d_law_817 : decode code 817 = .ok (.iconst 1, 1) := by decide +kernel
theorem d_law_818 : decode code 818 = .ok (.iadd, 1) := by decide +kernel
theorem d_law_819 : decode code 819 = .ok (.iaload, 1) := by decide +kernel
theorem d_law_820 : decode code 820 = .ok (.aload_n 0, 1) := by decide +kernel
theorem d_law_821 : decode code 821 = .ok (.iload_n 3, 1) := by decide +kernel
theorem d_law_822 : decode code 822 = .ok (.iconst 2, 1) := by decide +kernel
theorem d_law_823 : decode code 823 = .ok (.iadd, 1) := by decide +kernel
theorem d_law_824 : decode code 824 = .ok (.iaload, 1) := by decide +kernel
theorem d_law_825 : decode code 825 = .ok (.aload_n 0, 1) := by decide +kernel
theorem d_law_826 : decode code 826 = .ok (.iload_n 3, 1) := by decide +kernel
theorem d_law_827 : decode code 827 = .ok (.iconst 3, 1) := by decide +kernel
theorem d_law_828 : decode code 828 = .ok (.iadd, 1) := by decide +kernel
theorem d_law_829 : decode code 829 = .ok (.iaload, 1) := by decide +kernel
theorem d_law_830 : decode code 830 = .ok (.invokevirtual 101, 3) := by decide +kernel
theorem d_law_833 : decode code 833 = .ok (.if_icmp .eq 496, 3) := by decide +kernel
theorem d_law_836 : decode code 836 = .ok (.iconst 0, 1) := by decide +kernel
theorem d_law_837 : decode code 837 = .ok (.ireturn, 1) := by decide +kernel
theorem d_law_838 : decode code 838 = .ok (.aload_n 1, 1) := by decide +kernel
theorem d_law_839 : decode code 839 = .ok (.aload_n 0, 1) := by decide +kernel
theorem d_law_840 : decode code 840 = .ok (.iload_n 3, 1) := by decide +kernel
theorem d_law_841 : decode code 841 = .ok (.iconst 1, 1) := by decide +kernel
theorem d_law_842 : decode code 842 = .ok (.iadd, 1) := by decide +kernel
theorem d_law_843 : decode code 843 = .ok (.iaload, 1) := by decide +kernel
theorem d_law_844 : decode code 844 = .ok (.invokevirtual 102, 3) := by decide +kernel
theorem d_law_847 : decode code 847 = .ok (.aload_n 2, 1) := by decide +kernel
theorem d_law_848 : decode code 848 = .ok (.aload_n 0, 1) := by decide +kernel
theorem d_law_849 : decode code 849 = .ok (.iload_n 3, 1) := by decide +kernel
theorem d_law_850 : decode code 850 = .ok (.iconst 1, 1) := by decide +kernel
theorem d_law_851 : decode code 851 = .ok (.iadd, 1) := by decide +kernel
theorem d_law_852 : decode code 852 = .ok (.iaload, 1) := by decide +kernel
theorem d_law_853 : decode code 853 = .ok (.invokevirtual 105, 3) := by decide +kernel
theorem d_law_856 : decode code 856 = .ok (.if_icmp .eq 473, 3) := by decide +kernel
theorem d_law_859 : decode code 859 = .ok (.iconst 0, 1) := by decide +kernel
theorem d_law_860 : decode code 860 = .ok (.ireturn, 1) := by decide +kernel
theorem d_law_861 : decode code 861 = .ok (.aload_n 1, 1) := by decide +kernel
theorem d_law_862 : decode code 862 = .ok (.aload_n 0, 1) := by decide +kernel
theorem d_law_863 : decode code 863 = .ok (.iload_n 3, 1) := by decide +kernel
theorem d_law_864 : decode code 864 = .ok (.iconst 1, 1) := by decide +kernel
theorem d_law_865 : decode code 865 = .ok (.iadd, 1) := by decide +kernel
theorem d_law_866 : decode code 866 = .ok (.iaload, 1) := by decide +kernel
theorem d_law_867 : decode code 867 = .ok (.invokevirtual 106, 3) := by decide +kernel
theorem d_law_870 : decode code 870 = .ok (.aload_n 2, 1) := by decide +kernel
theorem d_law_871 : decode code 871 = .ok (.aload_n 0, 1) := by decide +kernel
theorem d_law_872 : decode code 872 = .ok (.iload_n 3, 1) := by decide +kernel
theorem d_law_873 : decode code 873 = .ok (.iconst 1, 1) := by decide +kernel
theorem d_law_874 : decode code 874 = .ok (.iadd, 1) := by decide +kernel
theorem d_law_875 : decode code 875 = .ok (.iaload, 1) := by decide +kernel
theorem d_law_876 : decode code 876 = .ok (.invokevirtual 109, 3) := by decide +kernel
theorem d_law_879 : decode code 879 = .ok (.if_icmp .eq 450, 3) := by decide +kernel
theorem d_law_882 : decode code 882 = .ok (.iconst 0, 1) := by decide +kernel
theorem d_law_883 : decode code 883 = .ok (.ireturn, 1) := by decide +kernel
theorem d_law_884 : decode code 884 = .ok (.aload_n 1, 1) := by decide +kernel
theorem d_law_885 : decode code 885 = .ok (.aload_n 0, 1) := by decide +kernel
theorem d_law_886 : decode code 886 = .ok (.iload_n 3, 1) := by decide +kernel
theorem d_law_887 : decode code 887 = .ok (.iconst 1, 1) := by decide +kernel
theorem d_law_888 : decode code 888 = .ok (.iadd, 1) := by decide +kernel
theorem d_law_889 : decode code 889 = .ok (.iaload, 1) := by decide +kernel
theorem d_law_890 : decode code 890 = .ok (.invokevirtual 110, 3) := by decide +kernel
theorem d_law_893 : decode code 893 = .ok (.aload_n 2, 1) := by decide +kernel
theorem d_law_894 : decode code 894 = .ok (.aload_n 0, 1) := by decide +kernel
theorem d_law_895 : decode code 895 = .ok (.iload_n 3, 1) := by decide +kernel
theorem d_law_896 : decode code 896 = .ok (.iconst 1, 1) := by decide +kernel
theorem d_law_897 : decode code 897 = .ok (.iadd, 1) := by decide +kernel
theorem d_law_898 : decode code 898 = .ok (.iaload, 1) := by decide +kernel
theorem d_law_899 : decode code 899 = .ok (.invokevirtual 113, 3) := by decide +kernel
theorem d_law_902 : decode code 902 = .ok (.if_icmp .eq 427, 3) := by decide +kernel
theorem d_law_905 : decode code 905 = .ok (.iconst 0, 1) := by decide +kernel
theorem d_law_906 : decode code 906 = .ok (.ireturn, 1) := by decide +kernel
theorem d_law_907 : decode code 907 = .ok (.aload_n 1, 1) := by decide +kernel
theorem d_law_908 : decode code 908 = .ok (.aload_n 0, 1) := by decide +kernel
theorem d_law_909 : decode code 909 = .ok (.iload_n 3, 1) := by decide +kernel
theorem d_law_910 : decode code 910 = .ok (.iconst 1, 1) := by decide +kernel
theorem d_law_911 : decode code 911 = .ok (.iadd, 1) := by decide +kernel
theorem d_law_912 : decode code 912 = .ok (.iaload, 1) := by decide +kernel
theorem d_law_913 : decode code 913 = .ok (.invokevirtual 114, 3) := by decide +kernel
theorem d_law_916 : decode code 916 = .ok (.aload_n 2, 1) := by decide +kernel
theorem d_law_917 : decode code 917 = .ok (.aload_n 0, 1) := by decide +kernel
theorem d_law_918 : decode code 918 = .ok (.iload_n 3, 1) := by decide +kernel
theorem d_law_919 : decode code 919 = .ok (.iconst 1, 1) := by decide +kernel
theorem d_law_920 : decode code 920 = .ok (.iadd, 1) := by decide +kernel
theorem d_law_921 : decode code 921 = .ok (.iaload, 1) := by decide +kernel
theorem d_law_922 : decode code 922 = .ok (.invokevirtual 117, 3) := by decide +kernel
theorem d_law_925 : decode code 925 = .ok (.if_icmp .eq 404, 3) := by decide +kernel
theorem d_law_928 : decode code 928 = .ok (.iconst 0, 1) := by decide +kernel
theorem d_law_929 : decode code 929 = .ok (.ireturn, 1) := by decide +kernel
theorem d_law_930 : decode code 930 = .ok (.aload_n 1, 1) := by decide +kernel
theorem d_law_931 : decode code 931 = .ok (.aload_n 0, 1) := by decide +kernel
theorem d_law_932 : decode code 932 = .ok (.iload_n 3, 1) := by decide +kernel
theorem d_law_933 : decode code 933 = .ok (.iconst 1, 1) := by decide +kernel
theorem d_law_934 : decode code 934 = .ok (.iadd, 1) := by decide +kernel
theorem d_law_935 : decode code 935 = .ok (.iaload, 1) := by decide +kernel
theorem d_law_936 : decode code 936 = .ok (.aload_n 0, 1) := by decide +kernel
theorem d_law_937 : decode code 937 = .ok (.iload_n 3, 1) := by decide +kernel
theorem d_law_938 : decode code 938 = .ok (.iconst 2, 1) := by decide +kernel
theorem d_law_939 : decode code 939 = .ok (.iadd, 1) := by decide +kernel
theorem d_law_940 : decode code 940 = .ok (.iaload, 1) := by decide +kernel
theorem d_law_941 : decode code 941 = .ok (.invokevirtual 118, 3) := by decide +kernel
theorem d_law_944 : decode code 944 = .ok (.aload_n 2, 1) := by decide +kernel
theorem d_law_945 : decode code 945 = .ok (.aload_n 0, 1) := by decide +kernel
theorem d_law_946 : decode code 946 = .ok (.iload_n 3, 1) := by decide +kernel
theorem d_law_947 : decode code 947 = .ok (.iconst 1, 1) := by decide +kernel
theorem d_law_948 : decode code 948 = .ok (.iadd, 1) := by decide +kernel
theorem d_law_949 : decode code 949 = .ok (.iaload, 1) := by decide +kernel
theorem d_law_950 : decode code 950 = .ok (.aload_n 0, 1) := by decide +kernel
theorem d_law_951 : decode code 951 = .ok (.iload_n 3, 1) := by decide +kernel
theorem d_law_952 : decode code 952 = .ok (.iconst 2, 1) := by decide +kernel
theorem d_law_953 : decode code 953 = .ok (.iadd, 1) := by decide +kernel
theorem d_law_954 : decode code 954 = .ok (.iaload, 1) := by decide +kernel
theorem d_law_955 : decode code 955 = .ok (.invokevirtual 121, 3) := by decide +kernel
theorem d_law_958 : decode code 958 = .ok (.if_icmp .eq 371, 3) := by decide +kernel
theorem d_law_961 : decode code 961 = .ok (.iconst 0, 1) := by decide +kernel
theorem d_law_962 : decode code 962 = .ok (.ireturn, 1) := by decide +kernel
theorem d_law_963 : decode code 963 = .ok (.aload_n 1, 1) := by decide +kernel
theorem d_law_964 : decode code 964 = .ok (.invokevirtual 122, 3) := by decide +kernel
theorem d_law_967 : decode code 967 = .ok (.aload_n 2, 1) := by decide +kernel
theorem d_law_968 : decode code 968 = .ok (.invokevirtual 125, 3) := by decide +kernel
theorem d_law_971 : decode code 971 = .ok (.if_icmp .eq 358, 3) := by decide +kernel
theorem d_law_974 : decode code 974 = .ok (.iconst 0, 1) := by decide +kernel
theorem d_law_975 : decode code 975 = .ok (.ireturn, 1) := by decide +kernel
theorem d_law_976 : decode code 976 = .ok (.aload_n 1, 1) := by decide +kernel
theorem d_law_977 : decode code 977 = .ok (.aload_n 0, 1) := by decide +kernel
theorem d_law_978 : decode code 978 = .ok (.iload_n 3, 1) := by decide +kernel
theorem d_law_979 : decode code 979 = .ok (.iconst 1, 1) := by decide +kernel
theorem d_law_980 : decode code 980 = .ok (.iadd, 1) := by decide +kernel
theorem d_law_981 : decode code 981 = .ok (.iaload, 1) := by decide +kernel
theorem d_law_982 : decode code 982 = .ok (.aload_n 0, 1) := by decide +kernel
theorem d_law_983 : decode code 983 = .ok (.iload_n 3, 1) := by decide +kernel
theorem d_law_984 : decode code 984 = .ok (.iconst 2, 1) := by decide +kernel
theorem d_law_985 : decode code 985 = .ok (.iadd, 1) := by decide +kernel
theorem d_law_986 : decode code 986 = .ok (.iaload, 1) := by decide +kernel
theorem d_law_987 : decode code 987 = .ok (.invokevirtual 126, 3) := by decide +kernel
theorem d_law_990 : decode code 990 = .ok (.aload_n 2, 1) := by decide +kernel
theorem d_law_991 : decode code 991 = .ok (.aload_n 0, 1) := by decide +kernel
theorem d_law_992 : decode code 992 = .ok (.iload_n 3, 1) := by decide +kernel
theorem d_law_993 : decode code 993 = .ok (.iconst 1, 1) := by decide +kernel
theorem d_law_994 : decode code 994 = .ok (.iadd, 1) := by decide +kernel
theorem d_law_995 : decode code 995 = .ok (.iaload, 1) := by decide +kernel
theorem d_law_996 : decode code 996 = .ok (.aload_n 0, 1) := by decide +kernel
theorem d_law_997 : decode code 997 = .ok (.iload_n 3, 1) := by decide +kernel
theorem d_law_998 : decode code 998 = .ok (.iconst 2, 1) := by decide +kernel
theorem d_law_999 : decode code 999 = .ok (.iadd, 1) := by decide +kernel
theorem d_law_1000 : decode code 1000 = .ok (.iaload, 1) := by decide +kernel
theorem d_law_1001 : decode code 1001 = .ok (.invokevirtual 129, 3) := by decide +kernel
theorem d_law_1004 : decode code 1004 = .ok (.if_icmp .eq 325, 3) := by decide +kernel
theorem d_law_1007 : decode code 1007 = .ok (.iconst 0, 1) := by decide +kernel
theorem d_law_1008 : decode code 1008 = .ok (.ireturn, 1) := by decide +kernel
theorem d_law_1009 : decode code 1009 = .ok (.aload_n 1, 1) := by decide +kernel
theorem d_law_1010 : decode code 1010 = .ok (.invokevirtual 130, 3) := by decide +kernel
theorem d_law_1013 : decode code 1013 = .ok (.aload_n 2, 1) := by decide +kernel
theorem d_law_1014 : decode code 1014 = .ok (.invokevirtual 133, 3) := by decide +kernel
theorem d_law_1017 : decode code 1017 = .ok (.if_icmp .eq 312, 3) := by decide +kernel
theorem d_law_1020 : decode code 1020 = .ok (.iconst 0, 1) := by decide +kernel
theorem d_law_1021 : decode code 1021 = .ok (.ireturn, 1) := by decide +kernel
theorem d_law_1022 : decode code 1022 = .ok (.aload_n 1, 1) := by decide +kernel
theorem d_law_1023 : decode code 1023 = .ok (.aload_n 0, 1) := by decide +kernel
theorem d_law_1024 : decode code 1024 = .ok (.iload_n 3, 1) := by decide +kernel
theorem d_law_1025 : decode code 1025 = .ok (.iconst 1, 1) := by decide +kernel
theorem d_law_1026 : decode code 1026 = .ok (.iadd, 1) := by decide +kernel
theorem d_law_1027 : decode code 1027 = .ok (.iaload, 1) := by decide +kernel
theorem d_law_1028 : decode code 1028 = .ok (.aload_n 0, 1) := by decide +kernel
theorem d_law_1029 : decode code 1029 = .ok (.iload_n 3, 1) := by decide +kernel
theorem d_law_1030 : decode code 1030 = .ok (.iconst 2, 1) := by decide +kernel
theorem d_law_1031 : decode code 1031 = .ok (.iadd, 1) := by decide +kernel
theorem d_law_1032 : decode code 1032 = .ok (.iaload, 1) := by decide +kernel
theorem d_law_1033 : decode code 1033 = .ok (.aload_n 0, 1) := by decide +kernel
theorem d_law_1034 : decode code 1034 = .ok (.iload_n 3, 1) := by decide +kernel
theorem d_law_1035 : decode code 1035 = .ok (.iconst 3, 1) := by decide +kernel
theorem d_law_1036 : decode code 1036 = .ok (.iadd, 1) := by decide +kernel
theorem d_law_1037 : decode code 1037 = .ok (.iaload, 1) := by decide +kernel
theorem d_law_1038 : decode code 1038 = .ok (.invokevirtual 134, 3) := by decide +kernel
theorem d_law_1041 : decode code 1041 = .ok (.aload_n 2, 1) := by decide +kernel
theorem d_law_1042 : decode code 1042 = .ok (.aload_n 0, 1) := by decide +kernel
theorem d_law_1043 : decode code 1043 = .ok (.iload_n 3, 1) := by decide +kernel
theorem d_law_1044 : decode code 1044 = .ok (.iconst 1, 1) := by decide +kernel
theorem d_law_1045 : decode code 1045 = .ok (.iadd, 1) := by decide +kernel
theorem d_law_1046 : decode code 1046 = .ok (.iaload, 1) := by decide +kernel
theorem d_law_1047 : decode code 1047 = .ok (.aload_n 0, 1) := by decide +kernel
theorem d_law_1048 : decode code 1048 = .ok (.iload_n 3, 1) := by decide +kernel
theorem d_law_1049 : decode code 1049 = .ok (.iconst 2, 1) := by decide +kernel
theorem d_law_1050 : decode code 1050 = .ok (.iadd, 1) := by decide +kernel
theorem d_law_1051 : decode code 1051 = .ok (.iaload, 1) := by decide +kernel
theorem d_law_1052 : decode code 1052 = .ok (.aload_n 0, 1) := by decide +kernel
theorem d_law_1053 : decode code 1053 = .ok (.iload_n 3, 1) := by decide +kernel
theorem d_law_1054 : decode code 1054 = .ok (.iconst 3, 1) := by decide +kernel
theorem d_law_1055 : decode code 1055 = .ok (.iadd, 1) := by decide +kernel
theorem d_law_1056 : decode code 1056 = .ok (.iaload, 1) := by decide +kernel
theorem d_law_1057 : decode code 1057 = .ok (.invokevirtual 137, 3) := by decide +kernel
theorem d_law_1060 : decode code 1060 = .ok (.if_icmp .eq 269, 3) := by decide +kernel
theorem d_law_1063 : decode code 1063 = .ok (.iconst 0, 1) := by decide +kernel
theorem d_law_1064 : decode code 1064 = .ok (.ireturn, 1) := by decide +kernel
theorem d_law_1065 : decode code 1065 = .ok (.aload_n 1, 1) := by decide +kernel
theorem d_law_1066 : decode code 1066 = .ok (.aload_n 0, 1) := by decide +kernel
theorem d_law_1067 : decode code 1067 = .ok (.iload_n 3, 1) := by decide +kernel
theorem d_law_1068 : decode code 1068 = .ok (.iconst 1, 1) := by decide +kernel
theorem d_law_1069 : decode code 1069 = .ok (.iadd, 1) := by decide +kernel
theorem d_law_1070 : decode code 1070 = .ok (.iaload, 1) := by decide +kernel
theorem d_law_1071 : decode code 1071 = .ok (.aload_n 0, 1) := by decide +kernel
theorem d_law_1072 : decode code 1072 = .ok (.iload_n 3, 1) := by decide +kernel
theorem d_law_1073 : decode code 1073 = .ok (.iconst 2, 1) := by decide +kernel
theorem d_law_1074 : decode code 1074 = .ok (.iadd, 1) := by decide +kernel
theorem d_law_1075 : decode code 1075 = .ok (.iaload, 1) := by decide +kernel
theorem d_law_1076 : decode code 1076 = .ok (.aload_n 0, 1) := by decide +kernel
theorem d_law_1077 : decode code 1077 = .ok (.iload_n 3, 1) := by decide +kernel
theorem d_law_1078 : decode code 1078 = .ok (.iconst 3, 1) := by decide +kernel
theorem d_law_1079 : decode code 1079 = .ok (.iadd, 1) := by decide +kernel
theorem d_law_1080 : decode code 1080 = .ok (.iaload, 1) := by decide +kernel
theorem d_law_1081 : decode code 1081 = .ok (.invokevirtual 138, 3) := by decide +kernel
theorem d_law_1084 : decode code 1084 = .ok (.aload_n 2, 1) := by decide +kernel
theorem d_law_1085 : decode code 1085 = .ok (.aload_n 0, 1) := by decide +kernel
theorem d_law_1086 : decode code 1086 = .ok (.iload_n 3, 1) := by decide +kernel
theorem d_law_1087 : decode code 1087 = .ok (.iconst 1, 1) := by decide +kernel
theorem d_law_1088 : decode code 1088 = .ok (.iadd, 1) := by decide +kernel
theorem d_law_1089 : decode code 1089 = .ok (.iaload, 1) := by decide +kernel
theorem d_law_1090 : decode code 1090 = .ok (.aload_n 0, 1) := by decide +kernel
theorem d_law_1091 : decode code 1091 = .ok (.iload_n 3, 1) := by decide +kernel
theorem d_law_1092 : decode code 1092 = .ok (.iconst 2, 1) := by decide +kernel
theorem d_law_1093 : decode code 1093 = .ok (.iadd, 1) := by decide +kernel
theorem d_law_1094 : decode code 1094 = .ok (.iaload, 1) := by decide +kernel
theorem d_law_1095 : decode code 1095 = .ok (.aload_n 0, 1) := by decide +kernel
theorem d_law_1096 : decode code 1096 = .ok (.iload_n 3, 1) := by decide +kernel
theorem d_law_1097 : decode code 1097 = .ok (.iconst 3, 1) := by decide +kernel
theorem d_law_1098 : decode code 1098 = .ok (.iadd, 1) := by decide +kernel
theorem d_law_1099 : decode code 1099 = .ok (.iaload, 1) := by decide +kernel
theorem d_law_1100 : decode code 1100 = .ok (.invokevirtual 141, 3) := by decide +kernel
theorem d_law_1103 : decode code 1103 = .ok (.if_icmp .eq 226, 3) := by decide +kernel
theorem d_law_1106 : decode code 1106 = .ok (.iconst 0, 1) := by decide +kernel
theorem d_law_1107 : decode code 1107 = .ok (.ireturn, 1) := by decide +kernel
theorem d_law_1108 : decode code 1108 = .ok (.aload_n 1, 1) := by decide +kernel
theorem d_law_1109 : decode code 1109 = .ok (.aload_n 0, 1) := by decide +kernel
theorem d_law_1110 : decode code 1110 = .ok (.iload_n 3, 1) := by decide +kernel
theorem d_law_1111 : decode code 1111 = .ok (.iconst 1, 1) := by decide +kernel
theorem d_law_1112 : decode code 1112 = .ok (.iadd, 1) := by decide +kernel
theorem d_law_1113 : decode code 1113 = .ok (.iaload, 1) := by decide +kernel
theorem d_law_1114 : decode code 1114 = .ok (.invokevirtual 142, 3) := by decide +kernel
theorem d_law_1117 : decode code 1117 = .ok (.aload_n 2, 1) := by decide +kernel
theorem d_law_1118 : decode code 1118 = .ok (.aload_n 0, 1) := by decide +kernel
theorem d_law_1119 : decode code 1119 = .ok (.iload_n 3, 1) := by decide +kernel
theorem d_law_1120 : decode code 1120 = .ok (.iconst 1, 1) := by decide +kernel
theorem d_law_1121 : decode code 1121 = .ok (.iadd, 1) := by decide +kernel
theorem d_law_1122 : decode code 1122 = .ok (.iaload, 1) := by decide +kernel
theorem d_law_1123 : decode code 1123 = .ok (.invokevirtual 145, 3) := by decide +kernel
theorem d_law_1126 : decode code 1126 = .ok (.if_icmp .eq 203, 3) := by decide +kernel
theorem d_law_1129 : decode code 1129 = .ok (.iconst 0, 1) := by decide +kernel
theorem d_law_1130 : decode code 1130 = .ok (.ireturn, 1) := by decide +kernel
theorem d_law_1131 : decode code 1131 = .ok (.aload_n 1, 1) := by decide +kernel
theorem d_law_1132 : decode code 1132 = .ok (.aload_n 0, 1) := by decide +kernel
theorem d_law_1133 : decode code 1133 = .ok (.iload_n 3, 1) := by decide +kernel
theorem d_law_1134 : decode code 1134 = .ok (.iconst 1, 1) := by decide +kernel
theorem d_law_1135 : decode code 1135 = .ok (.iadd, 1) := by decide +kernel
theorem d_law_1136 : decode code 1136 = .ok (.iaload, 1) := by decide +kernel
theorem d_law_1137 : decode code 1137 = .ok (.invokevirtual 146, 3) := by decide +kernel
theorem d_law_1140 : decode code 1140 = .ok (.aload_n 2, 1) := by decide +kernel
theorem d_law_1141 : decode code 1141 = .ok (.aload_n 0, 1) := by decide +kernel
theorem d_law_1142 : decode code 1142 = .ok (.iload_n 3, 1) := by decide +kernel
theorem d_law_1143 : decode code 1143 = .ok (.iconst 1, 1) := by decide +kernel
theorem d_law_1144 : decode code 1144 = .ok (.iadd, 1) := by decide +kernel
theorem d_law_1145 : decode code 1145 = .ok (.iaload, 1) := by decide +kernel
theorem d_law_1146 : decode code 1146 = .ok (.invokevirtual 149, 3) := by decide +kernel
theorem d_law_1149 : decode code 1149 = .ok (.if_icmp .eq 180, 3) := by decide +kernel
theorem d_law_1152 : decode code 1152 = .ok (.iconst 0, 1) := by decide +kernel
theorem d_law_1153 : decode code 1153 = .ok (.ireturn, 1) := by decide +kernel
theorem d_law_1154 : decode code 1154 = .ok (.aload_n 1, 1) := by decide +kernel
theorem d_law_1155 : decode code 1155 = .ok (.aload_n 0, 1) := by decide +kernel
theorem d_law_1156 : decode code 1156 = .ok (.iload_n 3, 1) := by decide +kernel
theorem d_law_1157 : decode code 1157 = .ok (.iconst 1, 1) := by decide +kernel
theorem d_law_1158 : decode code 1158 = .ok (.iadd, 1) := by decide +kernel
theorem d_law_1159 : decode code 1159 = .ok (.iaload, 1) := by decide +kernel
theorem d_law_1160 : decode code 1160 = .ok (.aload_n 0, 1) := by decide +kernel
theorem d_law_1161 : decode code 1161 = .ok (.iload_n 3, 1) := by decide +kernel
theorem d_law_1162 : decode code 1162 = .ok (.iconst 2, 1) := by decide +kernel
theorem d_law_1163 : decode code 1163 = .ok (.iadd, 1) := by decide +kernel
theorem d_law_1164 : decode code 1164 = .ok (.iaload, 1) := by decide +kernel
theorem d_law_1165 : decode code 1165 = .ok (.aload_n 0, 1) := by decide +kernel
theorem d_law_1166 : decode code 1166 = .ok (.iload_n 3, 1) := by decide +kernel
theorem d_law_1167 : decode code 1167 = .ok (.iconst 3, 1) := by decide +kernel
theorem d_law_1168 : decode code 1168 = .ok (.iadd, 1) := by decide +kernel
theorem d_law_1169 : decode code 1169 = .ok (.iaload, 1) := by decide +kernel
theorem d_law_1170 : decode code 1170 = .ok (.invokevirtual 150, 3) := by decide +kernel
theorem d_law_1173 : decode code 1173 = .ok (.aload_n 2, 1) := by decide +kernel
theorem d_law_1174 : decode code 1174 = .ok (.aload_n 0, 1) := by decide +kernel
theorem d_law_1175 : decode code 1175 = .ok (.iload_n 3, 1) := by decide +kernel
theorem d_law_1176 : decode code 1176 = .ok (.iconst 1, 1) := by decide +kernel
theorem d_law_1177 : decode code 1177 = .ok (.iadd, 1) := by decide +kernel
theorem d_law_1178 : decode code 1178 = .ok (.iaload, 1) := by decide +kernel
theorem d_law_1179 : decode code 1179 = .ok (.aload_n 0, 1) := by decide +kernel
theorem d_law_1180 : decode code 1180 = .ok (.iload_n 3, 1) := by decide +kernel
theorem d_law_1181 : decode code 1181 = .ok (.iconst 2, 1) := by decide +kernel
theorem d_law_1182 : decode code 1182 = .ok (.iadd, 1) := by decide +kernel
theorem d_law_1183 : decode code 1183 = .ok (.iaload, 1) := by decide +kernel
theorem d_law_1184 : decode code 1184 = .ok (.aload_n 0, 1) := by decide +kernel
theorem d_law_1185 : decode code 1185 = .ok (.iload_n 3, 1) := by decide +kernel
theorem d_law_1186 : decode code 1186 = .ok (.iconst 3, 1) := by decide +kernel
theorem d_law_1187 : decode code 1187 = .ok (.iadd, 1) := by decide +kernel
theorem d_law_1188 : decode code 1188 = .ok (.iaload, 1) := by decide +kernel
theorem d_law_1189 : decode code 1189 = .ok (.invokevirtual 153, 3) := by decide +kernel
theorem d_law_1192 : decode code 1192 = .ok (.if_icmp .eq 137, 3) := by decide +kernel
theorem d_law_1195 : decode code 1195 = .ok (.iconst 0, 1) := by decide +kernel
theorem d_law_1196 : decode code 1196 = .ok (.ireturn, 1) := by decide +kernel
theorem d_law_1197 : decode code 1197 = .ok (.aload_n 1, 1) := by decide +kernel
theorem d_law_1198 : decode code 1198 = .ok (.aload_n 0, 1) := by decide +kernel
theorem d_law_1199 : decode code 1199 = .ok (.iload_n 3, 1) := by decide +kernel
theorem d_law_1200 : decode code 1200 = .ok (.iconst 1, 1) := by decide +kernel
theorem d_law_1201 : decode code 1201 = .ok (.iadd, 1) := by decide +kernel
theorem d_law_1202 : decode code 1202 = .ok (.iaload, 1) := by decide +kernel
theorem d_law_1203 : decode code 1203 = .ok (.aload_n 0, 1) := by decide +kernel
theorem d_law_1204 : decode code 1204 = .ok (.iload_n 3, 1) := by decide +kernel
theorem d_law_1205 : decode code 1205 = .ok (.iconst 2, 1) := by decide +kernel
theorem d_law_1206 : decode code 1206 = .ok (.iadd, 1) := by decide +kernel
theorem d_law_1207 : decode code 1207 = .ok (.iaload, 1) := by decide +kernel
theorem d_law_1208 : decode code 1208 = .ok (.aload_n 0, 1) := by decide +kernel
theorem d_law_1209 : decode code 1209 = .ok (.iload_n 3, 1) := by decide +kernel
theorem d_law_1210 : decode code 1210 = .ok (.iconst 3, 1) := by decide +kernel
theorem d_law_1211 : decode code 1211 = .ok (.iadd, 1) := by decide +kernel
theorem d_law_1212 : decode code 1212 = .ok (.iaload, 1) := by decide +kernel
theorem d_law_1213 : decode code 1213 = .ok (.invokevirtual 154, 3) := by decide +kernel
theorem d_law_1216 : decode code 1216 = .ok (.aload_n 2, 1) := by decide +kernel
theorem d_law_1217 : decode code 1217 = .ok (.aload_n 0, 1) := by decide +kernel
theorem d_law_1218 : decode code 1218 = .ok (.iload_n 3, 1) := by decide +kernel
theorem d_law_1219 : decode code 1219 = .ok (.iconst 1, 1) := by decide +kernel
theorem d_law_1220 : decode code 1220 = .ok (.iadd, 1) := by decide +kernel
theorem d_law_1221 : decode code 1221 = .ok (.iaload, 1) := by decide +kernel
theorem d_law_1222 : decode code 1222 = .ok (.aload_n 0, 1) := by decide +kernel
theorem d_law_1223 : decode code 1223 = .ok (.iload_n 3, 1) := by decide +kernel
theorem d_law_1224 : decode code 1224 = .ok (.iconst 2, 1) := by decide +kernel
theorem d_law_1225 : decode code 1225 = .ok (.iadd, 1) := by decide +kernel
theorem d_law_1226 : decode code 1226 = .ok (.iaload, 1) := by decide +kernel
theorem d_law_1227 : decode code 1227 = .ok (.aload_n 0, 1) := by decide +kernel
theorem d_law_1228 : decode code 1228 = .ok (.iload_n 3, 1) := by decide +kernel
theorem d_law_1229 : decode code 1229 = .ok (.iconst 3, 1) := by decide +kernel
theorem d_law_1230 : decode code 1230 = .ok (.iadd, 1) := by decide +kernel
theorem d_law_1231 : decode code 1231 = .ok (.iaload, 1) := by decide +kernel
theorem d_law_1232 : decode code 1232 = .ok (.invokevirtual 157, 3) := by decide +kernel
theorem d_law_1235 : decode code 1235 = .ok (.if_icmp .eq 94, 3) := by decide +kernel
theorem d_law_1238 : decode code 1238 = .ok (.iconst 0, 1) := by decide +kernel
theorem d_law_1239 : decode code 1239 = .ok (.ireturn, 1) := by decide +kernel
theorem d_law_1240 : decode code 1240 = .ok (.aload_n 1, 1) := by decide +kernel
theorem d_law_1241 : decode code 1241 = .ok (.aload_n 0, 1) := by decide +kernel
theorem d_law_1242 : decode code 1242 = .ok (.iload_n 3, 1) := by decide +kernel
theorem d_law_1243 : decode code 1243 = .ok (.iconst 1, 1) := by decide +kernel
theorem d_law_1244 : decode code 1244 = .ok (.iadd, 1) := by decide +kernel
theorem d_law_1245 : decode code 1245 = .ok (.iaload, 1) := by decide +kernel
theorem d_law_1246 : decode code 1246 = .ok (.aload_n 0, 1) := by decide +kernel
theorem d_law_1247 : decode code 1247 = .ok (.iload_n 3, 1) := by decide +kernel
theorem d_law_1248 : decode code 1248 = .ok (.iconst 2, 1) := by decide +kernel
theorem d_law_1249 : decode code 1249 = .ok (.iadd, 1) := by decide +kernel
theorem d_law_1250 : decode code 1250 = .ok (.iaload, 1) := by decide +kernel
theorem d_law_1251 : decode code 1251 = .ok (.aload_n 0, 1) := by decide +kernel
theorem d_law_1252 : decode code 1252 = .ok (.iload_n 3, 1) := by decide +kernel
theorem d_law_1253 : decode code 1253 = .ok (.iconst 3, 1) := by decide +kernel
theorem d_law_1254 : decode code 1254 = .ok (.iadd, 1) := by decide +kernel
theorem d_law_1255 : decode code 1255 = .ok (.iaload, 1) := by decide +kernel
theorem d_law_1256 : decode code 1256 = .ok (.aload_n 0, 1) := by decide +kernel
theorem d_law_1257 : decode code 1257 = .ok (.iload_n 3, 1) := by decide +kernel
theorem d_law_1258 : decode code 1258 = .ok (.iconst 4, 1) := by decide +kernel
theorem d_law_1259 : decode code 1259 = .ok (.iadd, 1) := by decide +kernel
theorem d_law_1260 : decode code 1260 = .ok (.iaload, 1) := by decide +kernel
theorem d_law_1261 : decode code 1261 = .ok (.invokevirtual 158, 3) := by decide +kernel
theorem d_law_1264 : decode code 1264 = .ok (.aload_n 2, 1) := by decide +kernel
theorem d_law_1265 : decode code 1265 = .ok (.aload_n 0, 1) := by decide +kernel
theorem d_law_1266 : decode code 1266 = .ok (.iload_n 3, 1) := by decide +kernel
theorem d_law_1267 : decode code 1267 = .ok (.iconst 1, 1) := by decide +kernel
theorem d_law_1268 : decode code 1268 = .ok (.iadd, 1) := by decide +kernel
theorem d_law_1269 : decode code 1269 = .ok (.iaload, 1) := by decide +kernel
theorem d_law_1270 : decode code 1270 = .ok (.aload_n 0, 1) := by decide +kernel
theorem d_law_1271 : decode code 1271 = .ok (.iload_n 3, 1) := by decide +kernel
theorem d_law_1272 : decode code 1272 = .ok (.iconst 2, 1) := by decide +kernel
theorem d_law_1273 : decode code 1273 = .ok (.iadd, 1) := by decide +kernel
theorem d_law_1274 : decode code 1274 = .ok (.iaload, 1) := by decide +kernel
theorem d_law_1275 : decode code 1275 = .ok (.aload_n 0, 1) := by decide +kernel
theorem d_law_1276 : decode code 1276 = .ok (.iload_n 3, 1) := by decide +kernel
theorem d_law_1277 : decode code 1277 = .ok (.iconst 3, 1) := by decide +kernel
theorem d_law_1278 : decode code 1278 = .ok (.iadd, 1) := by decide +kernel
theorem d_law_1279 : decode code 1279 = .ok (.iaload, 1) := by decide +kernel
theorem d_law_1280 : decode code 1280 = .ok (.aload_n 0, 1) := by decide +kernel
theorem d_law_1281 : decode code 1281 = .ok (.iload_n 3, 1) := by decide +kernel
theorem d_law_1282 : decode code 1282 = .ok (.iconst 4, 1) := by decide +kernel
theorem d_law_1283 : decode code 1283 = .ok (.iadd, 1) := by decide +kernel
theorem d_law_1284 : decode code 1284 = .ok (.iaload, 1) := by decide +kernel
theorem d_law_1285 : decode code 1285 = .ok (.invokevirtual 161, 3) := by decide +kernel
theorem d_law_1288 : decode code 1288 = .ok (.if_icmp .eq 41, 3) := by decide +kernel
theorem d_law_1291 : decode code 1291 = .ok (.iconst 0, 1) := by decide +kernel
theorem d_law_1292 : decode code 1292 = .ok (.ireturn, 1) := by decide +kernel
theorem d_law_1293 : decode code 1293 = .ok (.aload_n 1, 1) := by decide +kernel
theorem d_law_1294 : decode code 1294 = .ok (.invokevirtual 162, 3) := by decide +kernel
theorem d_law_1297 : decode code 1297 = .ok (.aload_n 2, 1) := by decide +kernel
theorem d_law_1298 : decode code 1298 = .ok (.invokevirtual 165, 3) := by decide +kernel
theorem d_law_1301 : decode code 1301 = .ok (.if_icmp .eq 28, 3) := by decide +kernel
theorem d_law_1304 : decode code 1304 = .ok (.iconst 0, 1) := by decide +kernel
theorem d_law_1305 : decode code 1305 = .ok (.ireturn, 1) := by decide +kernel
theorem d_law_1306 : decode code 1306 = .ok (.aload_n 1, 1) := by decide +kernel
theorem d_law_1307 : decode code 1307 = .ok (.aload_n 0, 1) := by decide +kernel
theorem d_law_1308 : decode code 1308 = .ok (.iload_n 3, 1) := by decide +kernel
theorem d_law_1309 : decode code 1309 = .ok (.iconst 1, 1) := by decide +kernel
theorem d_law_1310 : decode code 1310 = .ok (.iadd, 1) := by decide +kernel
theorem d_law_1311 : decode code 1311 = .ok (.iaload, 1) := by decide +kernel
theorem d_law_1312 : decode code 1312 = .ok (.invokevirtual 166, 3) := by decide +kernel
theorem d_law_1315 : decode code 1315 = .ok (.aload_n 2, 1) := by decide +kernel
theorem d_law_1316 : decode code 1316 = .ok (.aload_n 0, 1) := by decide +kernel
theorem d_law_1317 : decode code 1317 = .ok (.iload_n 3, 1) := by decide +kernel
theorem d_law_1318 : decode code 1318 = .ok (.iconst 1, 1) := by decide +kernel
theorem d_law_1319 : decode code 1319 = .ok (.iadd, 1) := by decide +kernel
theorem d_law_1320 : decode code 1320 = .ok (.iaload, 1) := by decide +kernel
theorem d_law_1321 : decode code 1321 = .ok (.invokevirtual 169, 3) := by decide +kernel
theorem d_law_1324 : decode code 1324 = .ok (.if_icmp .eq 5, 3) := by decide +kernel
theorem d_law_1327 : decode code 1327 = .ok (.iconst 0, 1) := by decide +kernel
theorem d_law_1328 : decode code 1328 = .ok (.ireturn, 1) := by decide +kernel
theorem d_law_1329 : decode code 1329 = .ok (.iinc 3 5, 3) := by decide +kernel
theorem d_law_1332 : decode code 1332 = .ok (.goto (-1314), 3) := by decide +kernel
theorem d_law_1335 : decode code 1335 = .ok (.iconst 1, 1) := by decide +kernel
theorem d_law_1336 : decode code 1336 = .ok (.ireturn, 1) := by decide +kernel
theorem cV_Law_15 : CV R_law 15 y_ShakeHands_feed := ⟨tb_2 89 (by decide +kernel) rfl, im_ShakeHands_feed, se_ShakeHands_feed, ini_ShakeHands⟩
theorem dn_ShakeHands_feed : Dn y_ShakeHands_feed 1 := ⟨by decide +kernel, by decide +kernel, by decide +kernel⟩
theorem cV_Law_19 : CV R_law 19 y_Model_feed := ⟨tb_5 104 (by decide +kernel) rfl, im_Model_feed, se_Model_feed, ini_Model⟩
theorem dn_Model_feed : Dn y_Model_feed 1 := ⟨by decide +kernel, by decide +kernel, by decide +kernel⟩
theorem cV_Law_20 : CV R_law 20 y_ShakeHands_end := ⟨tb_2 97 (by decide +kernel) rfl, im_ShakeHands_end, se_ShakeHands_end, ini_ShakeHands⟩
theorem dn_ShakeHands_end : Dn y_ShakeHands_end 1 := ⟨by decide +kernel, by decide +kernel, by decide +kernel⟩
theorem cV_Law_24 : CV R_law 24 y_Model_end := ⟨tb_5 109 (by decide +kernel) rfl, im_Model_end, se_Model_end, ini_Model⟩
theorem dn_Model_end : Dn y_Model_end 1 := ⟨by decide +kernel, by decide +kernel, by decide +kernel⟩
theorem cV_Law_25 : CV R_law 25 y_ShakeHands_text := ⟨tb_2 101 (by decide +kernel) rfl, im_ShakeHands_text, se_ShakeHands_text, ini_ShakeHands⟩
theorem dn_ShakeHands_text : Dn y_ShakeHands_text 0 := ⟨by decide +kernel, by decide +kernel, by decide +kernel⟩
theorem cV_Law_29 : CV R_law 29 y_Model_text := ⟨tb_5 116 (by decide +kernel) rfl, im_Model_text, se_Model_text, ini_Model⟩
theorem dn_Model_text : Dn y_Model_text 0 := ⟨by decide +kernel, by decide +kernel, by decide +kernel⟩
theorem cV_Law_30 : CV R_law 30 y_ShakeHands_fault := ⟨tb_3 34 (by decide +kernel) rfl, im_ShakeHands_fault, se_ShakeHands_fault, ini_ShakeHands⟩
theorem dn_ShakeHands_fault : Dn y_ShakeHands_fault 0 := ⟨by decide +kernel, by decide +kernel, by decide +kernel⟩
theorem cV_Law_33 : CV R_law 33 y_Model_fault := ⟨tb_5 180 (by decide +kernel) rfl, im_Model_fault, se_Model_fault, ini_Model⟩
theorem dn_Model_fault : Dn y_Model_fault 0 := ⟨by decide +kernel, by decide +kernel, by decide +kernel⟩
theorem cV_Law_34 : CV R_law 34 y_ShakeHands_rule := ⟨tb_3 38 (by decide +kernel) rfl, im_ShakeHands_rule, se_ShakeHands_rule, ini_ShakeHands⟩
theorem dn_ShakeHands_rule : Dn y_ShakeHands_rule 1 := ⟨by decide +kernel, by decide +kernel, by decide +kernel⟩
theorem cV_Law_37 : CV R_law 37 y_Model_rule := ⟨tb_5 184 (by decide +kernel) rfl, im_Model_rule, se_Model_rule, ini_Model⟩
theorem dn_Model_rule : Dn y_Model_rule 1 := ⟨by decide +kernel, by decide +kernel, by decide +kernel⟩
theorem cV_Law_38 : CV R_law 38 y_ShakeHands_hand := ⟨tb_3 43 (by decide +kernel) rfl, im_ShakeHands_hand, se_ShakeHands_hand, ini_ShakeHands⟩
theorem dn_ShakeHands_hand : Dn y_ShakeHands_hand 2 := ⟨by decide +kernel, by decide +kernel, by decide +kernel⟩
theorem cV_Law_42 : CV R_law 42 y_Model_hand := ⟨tb_5 195 (by decide +kernel) rfl, im_Model_hand, se_Model_hand, ini_Model⟩
theorem dn_Model_hand : Dn y_Model_hand 2 := ⟨by decide +kernel, by decide +kernel, by decide +kernel⟩
theorem cV_Law_43 : CV R_law 43 y_ShakeHands_join := ⟨tb_3 47 (by decide +kernel) rfl, im_ShakeHands_join, se_ShakeHands_join, ini_ShakeHands⟩
theorem dn_ShakeHands_join : Dn y_ShakeHands_join 2 := ⟨by decide +kernel, by decide +kernel, by decide +kernel⟩
theorem cV_Law_47 : CV R_law 47 y_Model_join := ⟨tb_5 199 (by decide +kernel) rfl, im_Model_join, se_Model_join, ini_Model⟩
theorem dn_Model_join : Dn y_Model_join 2 := ⟨by decide +kernel, by decide +kernel, by decide +kernel⟩
theorem cV_Law_48 : CV R_law 48 y_ShakeHands_knows := ⟨tb_3 51 (by decide +kernel) rfl, im_ShakeHands_knows, se_ShakeHands_knows, ini_ShakeHands⟩
theorem dn_ShakeHands_knows : Dn y_ShakeHands_knows 1 := ⟨by decide +kernel, by decide +kernel, by decide +kernel⟩
theorem cV_Law_51 : CV R_law 51 y_Model_knows := ⟨tb_5 204 (by decide +kernel) rfl, im_Model_knows, se_Model_knows, ini_Model⟩
theorem dn_Model_knows : Dn y_Model_knows 1 := ⟨by decide +kernel, by decide +kernel, by decide +kernel⟩
theorem cV_Law_52 : CV R_law 52 y_ShakeHands_row := ⟨tb_3 62 (by decide +kernel) rfl, im_ShakeHands_row, se_ShakeHands_row, ini_ShakeHands⟩
theorem dn_ShakeHands_row : Dn y_ShakeHands_row 2 := ⟨by decide +kernel, by decide +kernel, by decide +kernel⟩
theorem cV_Law_55 : CV R_law 55 y_Model_row := ⟨tb_5 224 (by decide +kernel) rfl, im_Model_row, se_Model_row, ini_Model⟩
theorem dn_Model_row : Dn y_Model_row 2 := ⟨by decide +kernel, by decide +kernel, by decide +kernel⟩
theorem cV_Law_56 : CV R_law 56 y_ShakeHands_who := ⟨tb_3 72 (by decide +kernel) rfl, im_ShakeHands_who, se_ShakeHands_who, ini_ShakeHands⟩
theorem dn_ShakeHands_who : Dn y_ShakeHands_who 1 := ⟨by decide +kernel, by decide +kernel, by decide +kernel⟩
theorem cV_Law_59 : CV R_law 59 y_Model_who := ⟨tb_5 228 (by decide +kernel) rfl, im_Model_who, se_Model_who, ini_Model⟩
theorem dn_Model_who : Dn y_Model_who 1 := ⟨by decide +kernel, by decide +kernel, by decide +kernel⟩
theorem cV_Law_60 : CV R_law 60 y_ShakeHands_learn := ⟨tb_3 82 (by decide +kernel) rfl, im_ShakeHands_learn, se_ShakeHands_learn, ini_ShakeHands⟩
theorem dn_ShakeHands_learn : Dn y_ShakeHands_learn 2 := ⟨by decide +kernel, by decide +kernel, by decide +kernel⟩
theorem cV_Law_63 : CV R_law 63 y_Model_learn := ⟨tb_6 4 (by decide +kernel) rfl, im_Model_learn, se_Model_learn, ini_Model⟩
theorem dn_Model_learn : Dn y_Model_learn 2 := ⟨by decide +kernel, by decide +kernel, by decide +kernel⟩
theorem cV_Law_64 : CV R_law 64 y_ShakeHands_forget := ⟨tb_3 117 (by decide +kernel) rfl, im_ShakeHands_forget, se_ShakeHands_forget, ini_ShakeHands⟩
theorem dn_ShakeHands_forget : Dn y_ShakeHands_forget 2 := ⟨by decide +kernel, by decide +kernel, by decide +kernel⟩
theorem cV_Law_67 : CV R_law 67 y_Model_forget := ⟨tb_6 36 (by decide +kernel) rfl, im_Model_forget, se_Model_forget, ini_Model⟩
theorem dn_Model_forget : Dn y_Model_forget 2 := ⟨by decide +kernel, by decide +kernel, by decide +kernel⟩
theorem cV_Law_68 : CV R_law 68 y_ShakeHands_glove := ⟨tb_3 125 (by decide +kernel) rfl, im_ShakeHands_glove, se_ShakeHands_glove, ini_ShakeHands⟩
theorem dn_ShakeHands_glove : Dn y_ShakeHands_glove 2 := ⟨by decide +kernel, by decide +kernel, by decide +kernel⟩
theorem cV_Law_71 : CV R_law 71 y_Model_glove := ⟨tb_6 40 (by decide +kernel) rfl, im_Model_glove, se_Model_glove, ini_Model⟩
theorem dn_Model_glove : Dn y_Model_glove 2 := ⟨by decide +kernel, by decide +kernel, by decide +kernel⟩
theorem cV_Law_72 : CV R_law 72 y_ShakeHands_shake := ⟨tb_3 129 (by decide +kernel) rfl, im_ShakeHands_shake, se_ShakeHands_shake, ini_ShakeHands⟩
theorem dn_ShakeHands_shake : Dn y_ShakeHands_shake 2 := ⟨by decide +kernel, by decide +kernel, by decide +kernel⟩
theorem cV_Law_75 : CV R_law 75 y_Model_shake := ⟨tb_6 44 (by decide +kernel) rfl, im_Model_shake, se_Model_shake, ini_Model⟩
theorem dn_Model_shake : Dn y_Model_shake 2 := ⟨by decide +kernel, by decide +kernel, by decide +kernel⟩
theorem cV_Law_76 : CV R_law 76 y_ShakeHands_feast := ⟨tb_3 151 (by decide +kernel) rfl, im_ShakeHands_feast, se_ShakeHands_feast, ini_ShakeHands⟩
theorem dn_ShakeHands_feast : Dn y_ShakeHands_feast 1 := ⟨by decide +kernel, by decide +kernel, by decide +kernel⟩
theorem cV_Law_79 : CV R_law 79 y_Model_feast := ⟨tb_6 64 (by decide +kernel) rfl, im_Model_feast, se_Model_feast, ini_Model⟩
theorem dn_Model_feast : Dn y_Model_feast 1 := ⟨by decide +kernel, by decide +kernel, by decide +kernel⟩
theorem cV_Law_80 : CV R_law 80 y_ShakeHands_after := ⟨tb_3 167 (by decide +kernel) rfl, im_ShakeHands_after, se_ShakeHands_after, ini_ShakeHands⟩
theorem dn_ShakeHands_after : Dn y_ShakeHands_after 2 := ⟨by decide +kernel, by decide +kernel, by decide +kernel⟩
theorem cV_Law_83 : CV R_law 83 y_Model_after := ⟨tb_6 80 (by decide +kernel) rfl, im_Model_after, se_Model_after, ini_Model⟩
theorem dn_Model_after : Dn y_Model_after 2 := ⟨by decide +kernel, by decide +kernel, by decide +kernel⟩
theorem cV_Law_84 : CV R_law 84 y_ShakeHands_lost := ⟨tb_3 175 (by decide +kernel) rfl, im_ShakeHands_lost, se_ShakeHands_lost, ini_ShakeHands⟩
theorem dn_ShakeHands_lost : Dn y_ShakeHands_lost 1 := ⟨by decide +kernel, by decide +kernel, by decide +kernel⟩
theorem cV_Law_87 : CV R_law 87 y_Model_lost := ⟨tb_6 84 (by decide +kernel) rfl, im_Model_lost, se_Model_lost, ini_Model⟩
theorem dn_Model_lost : Dn y_Model_lost 1 := ⟨by decide +kernel, by decide +kernel, by decide +kernel⟩
theorem cV_Law_88 : CV R_law 88 y_ShakeHands_told := ⟨tb_3 179 (by decide +kernel) rfl, im_ShakeHands_told, se_ShakeHands_told, ini_ShakeHands⟩
theorem dn_ShakeHands_told : Dn y_ShakeHands_told 2 := ⟨by decide +kernel, by decide +kernel, by decide +kernel⟩
theorem cV_Law_91 : CV R_law 91 y_Model_told := ⟨tb_6 88 (by decide +kernel) rfl, im_Model_told, se_Model_told, ini_Model⟩
theorem dn_Model_told : Dn y_Model_told 2 := ⟨by decide +kernel, by decide +kernel, by decide +kernel⟩
theorem cV_Law_92 : CV R_law 92 y_ShakeHands_fewest := ⟨tb_3 183 (by decide +kernel) rfl, im_ShakeHands_fewest, se_ShakeHands_fewest, ini_ShakeHands⟩
theorem dn_ShakeHands_fewest : Dn y_ShakeHands_fewest 4 := ⟨by decide +kernel, by decide +kernel, by decide +kernel⟩
theorem cV_Law_96 : CV R_law 96 y_Model_fewest := ⟨tb_6 92 (by decide +kernel) rfl, im_Model_fewest, se_Model_fewest, ini_Model⟩
theorem dn_Model_fewest : Dn y_Model_fewest 4 := ⟨by decide +kernel, by decide +kernel, by decide +kernel⟩
theorem cV_Law_97 : CV R_law 97 y_ShakeHands_rounds := ⟨tb_3 234 (by decide +kernel) rfl, im_ShakeHands_rounds, se_ShakeHands_rounds, ini_ShakeHands⟩
theorem dn_ShakeHands_rounds : Dn y_ShakeHands_rounds 3 := ⟨by decide +kernel, by decide +kernel, by decide +kernel⟩
theorem cV_Law_101 : CV R_law 101 y_Model_rounds := ⟨tb_6 142 (by decide +kernel) rfl, im_Model_rounds, se_Model_rounds, ini_Model⟩
theorem dn_Model_rounds : Dn y_Model_rounds 3 := ⟨by decide +kernel, by decide +kernel, by decide +kernel⟩
theorem cV_Law_102 : CV R_law 102 y_ShakeHands_lose := ⟨tb_4 5 (by decide +kernel) rfl, im_ShakeHands_lose, se_ShakeHands_lose, ini_ShakeHands⟩
theorem dn_ShakeHands_lose : Dn y_ShakeHands_lose 1 := ⟨by decide +kernel, by decide +kernel, by decide +kernel⟩
theorem cV_Law_105 : CV R_law 105 y_Model_lose := ⟨tb_6 159 (by decide +kernel) rfl, im_Model_lose, se_Model_lose, ini_Model⟩
theorem dn_Model_lose : Dn y_Model_lose 1 := ⟨by decide +kernel, by decide +kernel, by decide +kernel⟩
theorem cV_Law_106 : CV R_law 106 y_ShakeHands_lives := ⟨tb_4 9 (by decide +kernel) rfl, im_ShakeHands_lives, se_ShakeHands_lives, ini_ShakeHands⟩
theorem dn_ShakeHands_lives : Dn y_ShakeHands_lives 1 := ⟨by decide +kernel, by decide +kernel, by decide +kernel⟩
theorem cV_Law_109 : CV R_law 109 y_Model_lives := ⟨tb_6 163 (by decide +kernel) rfl, im_Model_lives, se_Model_lives, ini_Model⟩
theorem dn_Model_lives : Dn y_Model_lives 1 := ⟨by decide +kernel, by decide +kernel, by decide +kernel⟩
theorem cV_Law_110 : CV R_law 110 y_ShakeHands_comes := ⟨tb_4 23 (by decide +kernel) rfl, im_ShakeHands_comes, se_ShakeHands_comes, ini_ShakeHands⟩
theorem dn_ShakeHands_comes : Dn y_ShakeHands_comes 1 := ⟨by decide +kernel, by decide +kernel, by decide +kernel⟩
theorem cV_Law_113 : CV R_law 113 y_Model_comes := ⟨tb_6 171 (by decide +kernel) rfl, im_Model_comes, se_Model_comes, ini_Model⟩
theorem dn_Model_comes : Dn y_Model_comes 1 := ⟨by decide +kernel, by decide +kernel, by decide +kernel⟩
theorem cV_Law_114 : CV R_law 114 y_ShakeHands_days := ⟨tb_4 35 (by decide +kernel) rfl, im_ShakeHands_days, se_ShakeHands_days, ini_ShakeHands⟩
theorem dn_ShakeHands_days : Dn y_ShakeHands_days 1 := ⟨by decide +kernel, by decide +kernel, by decide +kernel⟩
theorem cV_Law_117 : CV R_law 117 y_Model_days := ⟨tb_6 184 (by decide +kernel) rfl, im_Model_days, se_Model_days, ini_Model⟩
theorem dn_Model_days : Dn y_Model_days 1 := ⟨by decide +kernel, by decide +kernel, by decide +kernel⟩
theorem cV_Law_118 : CV R_law 118 y_ShakeHands_saw := ⟨tb_4 40 (by decide +kernel) rfl, im_ShakeHands_saw, se_ShakeHands_saw, ini_ShakeHands⟩
theorem dn_ShakeHands_saw : Dn y_ShakeHands_saw 2 := ⟨by decide +kernel, by decide +kernel, by decide +kernel⟩
theorem cV_Law_121 : CV R_law 121 y_Model_saw := ⟨tb_6 189 (by decide +kernel) rfl, im_Model_saw, se_Model_saw, ini_Model⟩
theorem dn_Model_saw : Dn y_Model_saw 2 := ⟨by decide +kernel, by decide +kernel, by decide +kernel⟩
theorem cV_Law_122 : CV R_law 122 y_ShakeHands_blind := ⟨tb_4 45 (by decide +kernel) rfl, im_ShakeHands_blind, se_ShakeHands_blind, ini_ShakeHands⟩
theorem dn_ShakeHands_blind : Dn y_ShakeHands_blind 0 := ⟨by decide +kernel, by decide +kernel, by decide +kernel⟩
theorem cV_Law_125 : CV R_law 125 y_Model_blind := ⟨tb_6 198 (by decide +kernel) rfl, im_Model_blind, se_Model_blind, ini_Model⟩
theorem dn_Model_blind : Dn y_Model_blind 0 := ⟨by decide +kernel, by decide +kernel, by decide +kernel⟩
theorem cV_Law_126 : CV R_law 126 y_ShakeHands_fits := ⟨tb_4 49 (by decide +kernel) rfl, im_ShakeHands_fits, se_ShakeHands_fits, ini_ShakeHands⟩
theorem dn_ShakeHands_fits : Dn y_ShakeHands_fits 2 := ⟨by decide +kernel, by decide +kernel, by decide +kernel⟩
theorem cV_Law_129 : CV R_law 129 y_Model_fits := ⟨tb_6 202 (by decide +kernel) rfl, im_Model_fits, se_Model_fits, ini_Model⟩
theorem dn_Model_fits : Dn y_Model_fits 2 := ⟨by decide +kernel, by decide +kernel, by decide +kernel⟩
theorem cV_Law_130 : CV R_law 130 y_ShakeHands_least := ⟨tb_4 65 (by decide +kernel) rfl, im_ShakeHands_least, se_ShakeHands_least, ini_ShakeHands⟩
theorem dn_ShakeHands_least : Dn y_ShakeHands_least 0 := ⟨by decide +kernel, by decide +kernel, by decide +kernel⟩
theorem cV_Law_133 : CV R_law 133 y_Model_least := ⟨tb_6 207 (by decide +kernel) rfl, im_Model_least, se_Model_least, ini_Model⟩
theorem dn_Model_least : Dn y_Model_least 0 := ⟨by decide +kernel, by decide +kernel, by decide +kernel⟩
theorem cV_Law_134 : CV R_law 134 y_ShakeHands_seats := ⟨tb_4 69 (by decide +kernel) rfl, im_ShakeHands_seats, se_ShakeHands_seats, ini_ShakeHands⟩
theorem dn_ShakeHands_seats : Dn y_ShakeHands_seats 3 := ⟨by decide +kernel, by decide +kernel, by decide +kernel⟩
theorem cV_Law_137 : CV R_law 137 y_Model_seats := ⟨tb_6 211 (by decide +kernel) rfl, im_Model_seats, se_Model_seats, ini_Model⟩
theorem dn_Model_seats : Dn y_Model_seats 3 := ⟨by decide +kernel, by decide +kernel, by decide +kernel⟩
theorem cV_Law_138 : CV R_law 138 y_ShakeHands_gloves := ⟨tb_4 81 (by decide +kernel) rfl, im_ShakeHands_gloves, se_ShakeHands_gloves, ini_ShakeHands⟩
theorem dn_ShakeHands_gloves : Dn y_ShakeHands_gloves 3 := ⟨by decide +kernel, by decide +kernel, by decide +kernel⟩
theorem cV_Law_141 : CV R_law 141 y_Model_gloves := ⟨tb_6 219 (by decide +kernel) rfl, im_Model_gloves, se_Model_gloves, ini_Model⟩
theorem dn_Model_gloves : Dn y_Model_gloves 3 := ⟨by decide +kernel, by decide +kernel, by decide +kernel⟩
theorem cV_Law_142 : CV R_law 142 y_ShakeHands_keep := ⟨tb_4 89 (by decide +kernel) rfl, im_ShakeHands_keep, se_ShakeHands_keep, ini_ShakeHands⟩
theorem dn_ShakeHands_keep : Dn y_ShakeHands_keep 1 := ⟨by decide +kernel, by decide +kernel, by decide +kernel⟩
theorem cV_Law_145 : CV R_law 145 y_Model_keep := ⟨tb_6 223 (by decide +kernel) rfl, im_Model_keep, se_Model_keep, ini_Model⟩
theorem dn_Model_keep : Dn y_Model_keep 1 := ⟨by decide +kernel, by decide +kernel, by decide +kernel⟩
theorem cV_Law_146 : CV R_law 146 y_ShakeHands_back := ⟨tb_4 101 (by decide +kernel) rfl, im_ShakeHands_back, se_ShakeHands_back, ini_ShakeHands⟩
theorem dn_ShakeHands_back : Dn y_ShakeHands_back 1 := ⟨by decide +kernel, by decide +kernel, by decide +kernel⟩
theorem cV_Law_149 : CV R_law 149 y_Model_back := ⟨tb_6 227 (by decide +kernel) rfl, im_Model_back, se_Model_back, ini_Model⟩
theorem dn_Model_back : Dn y_Model_back 1 := ⟨by decide +kernel, by decide +kernel, by decide +kernel⟩
theorem cV_Law_150 : CV R_law 150 y_ShakeHands_sheet := ⟨tb_4 105 (by decide +kernel) rfl, im_ShakeHands_sheet, se_ShakeHands_sheet, ini_ShakeHands⟩
theorem dn_ShakeHands_sheet : Dn y_ShakeHands_sheet 3 := ⟨by decide +kernel, by decide +kernel, by decide +kernel⟩
theorem cV_Law_153 : CV R_law 153 y_Model_sheet := ⟨tb_6 231 (by decide +kernel) rfl, im_Model_sheet, se_Model_sheet, ini_Model⟩
theorem dn_Model_sheet : Dn y_Model_sheet 3 := ⟨by decide +kernel, by decide +kernel, by decide +kernel⟩
theorem cV_Law_154 : CV R_law 154 y_ShakeHands_lay := ⟨tb_4 119 (by decide +kernel) rfl, im_ShakeHands_lay, se_ShakeHands_lay, ini_ShakeHands⟩
theorem dn_ShakeHands_lay : Dn y_ShakeHands_lay 3 := ⟨by decide +kernel, by decide +kernel, by decide +kernel⟩
theorem cV_Law_157 : CV R_law 157 y_Model_lay := ⟨tb_6 239 (by decide +kernel) rfl, im_Model_lay, se_Model_lay, ini_Model⟩
theorem dn_Model_lay : Dn y_Model_lay 3 := ⟨by decide +kernel, by decide +kernel, by decide +kernel⟩
theorem cV_Law_158 : CV R_law 158 y_ShakeHands_read := ⟨tb_4 132 (by decide +kernel) rfl, im_ShakeHands_read, se_ShakeHands_read, ini_ShakeHands⟩
theorem dn_ShakeHands_read : Dn y_ShakeHands_read 4 := ⟨by decide +kernel, by decide +kernel, by decide +kernel⟩
theorem cV_Law_161 : CV R_law 161 y_Model_read := ⟨tb_7 3 (by decide +kernel) rfl, im_Model_read, se_Model_read, ini_Model⟩
theorem dn_Model_read : Dn y_Model_read 4 := ⟨by decide +kernel, by decide +kernel, by decide +kernel⟩
theorem cV_Law_162 : CV R_law 162 y_ShakeHands_torn := ⟨tb_4 144 (by decide +kernel) rfl, im_ShakeHands_torn, se_ShakeHands_torn, ini_ShakeHands⟩
theorem dn_ShakeHands_torn : Dn y_ShakeHands_torn 0 := ⟨by decide +kernel, by decide +kernel, by decide +kernel⟩
theorem cV_Law_165 : CV R_law 165 y_Model_torn := ⟨tb_7 8 (by decide +kernel) rfl, im_Model_torn, se_Model_torn, ini_Model⟩
theorem dn_Model_torn : Dn y_Model_torn 0 := ⟨by decide +kernel, by decide +kernel, by decide +kernel⟩
theorem cV_Law_166 : CV R_law 166 y_ShakeHands_count := ⟨tb_4 148 (by decide +kernel) rfl, im_ShakeHands_count, se_ShakeHands_count, ini_ShakeHands⟩
theorem dn_ShakeHands_count : Dn y_ShakeHands_count 1 := ⟨by decide +kernel, by decide +kernel, by decide +kernel⟩
theorem cV_Law_169 : CV R_law 169 y_Model_count := ⟨tb_7 12 (by decide +kernel) rfl, im_Model_count, se_Model_count, ini_Model⟩
theorem dn_Model_count : Dn y_Model_count 1 := ⟨by decide +kernel, by decide +kernel, by decide +kernel⟩
set_option maxHeartbeats 4000000 in
theorem law_case_0 {L : Nat} {xs : Nat → Int32} {i : Int32} (h0 : vp_in i L) (h1 : vp_in (i + 1) L) (h2 : vp_in (i + 2) L) (h3 : vp_in (i + 3) L) (h4 : vp_in (i + 4) L) {Mx Mm : Mem} (hR : Rel Mx Mm) (hFA : ∃ r Mx2 Mm2, X_ShakeHands_fault fuel Mx = some (r, Mx2) ∧ X_Model_fault fuel Mm = some (r, Mm2) ∧ Rel Mx2 Mm2) (hend : ∀ Mx2 Mm2, Rel Mx2 Mm2 → JL L xs 1329 [(0, .ref 301), (1, .ref 0), (2, .ref 300), (3, .int i)] [] Mx2 Mm2) : JL L xs 196 [(0, .ref 301), (1, .ref 0), (2, .ref 300), (3, .int i)] [] Mx Mm := by
  refine l_aload_n (pc := 196) (q := 1) d_law_196 rfl rfl ?_
  refine l_aload_n (pc := 197) (q := 0) d_law_197 rfl rfl ?_
  refine l_iload_n (pc := 198) (q := 3) d_law_198 rfl rfl ?_
  refine l_iconst (pc := 199) d_law_199 k_i_1 ?_
  refine l_iadd (pc := 200) d_law_200 ?_
  refine l_ald (pc := 201) d_law_201 (h1) ?_
  refine l_i2l (pc := 202) d_law_202 ?_
  refine l_bipush (pc := 203) d_law_203 k_b_32 ?_
  refine l_lshl (pc := 205) d_law_205 ?_
  refine l_aload_n (pc := 206) (q := 0) d_law_206 rfl rfl ?_
  refine l_iload_n (pc := 207) (q := 3) d_law_207 rfl rfl ?_
  refine l_iconst (pc := 208) d_law_208 k_i_2 ?_
  refine l_iadd (pc := 209) d_law_209 ?_
  refine l_ald (pc := 210) d_law_210 (h2) ?_
  refine l_i2l (pc := 211) d_law_211 ?_
  refine l_ldc2 (pc := 212) d_law_212 cl_Law_13 ?_
  refine l_land (pc := 215) d_law_215 ?_
  refine l_lor (pc := 216) d_law_216 ?_
  obtain ⟨r, Mx2, Mm2, hFx, hFm, hR2⟩ := sim_feed ((((xs (i + 1).toNatClampNeg).toInt64) <<< ((32 : Int32).toInt64 &&& 63)) ||| (((xs (i + 2).toNatClampNeg).toInt64) &&& 4294967295)) _ _ hR
  refine l_callX (pc := 217) (as := [.long ((((xs (i + 1).toNatClampNeg).toInt64) <<< ((32 : Int32).toInt64 &&& 63)) ||| (((xs (i + 2).toNatClampNeg).toInt64) &&& 4294967295))]) d_law_217 (C_ShakeHands_feed fuel ((((xs (i + 1).toNatClampNeg).toInt64) <<< ((32 : Int32).toInt64 &&& 63)) ||| (((xs (i + 2).toNatClampNeg).toInt64) &&& 4294967295)) _) hFx cV_Law_15 cd_ShakeHands_feed dn_ShakeHands_feed rfl rfl (by decide) (by decide) (Nat.le_of_ble_eq_true rfl) rfl (fun _ _ => rfl) ?_
  refine l_aload_n (pc := 220) (q := 2) d_law_220 rfl rfl ?_
  refine l_aload_n (pc := 221) (q := 0) d_law_221 rfl rfl ?_
  refine l_iload_n (pc := 222) (q := 3) d_law_222 rfl rfl ?_
  refine l_iconst (pc := 223) d_law_223 k_i_1 ?_
  refine l_iadd (pc := 224) d_law_224 ?_
  refine l_ald (pc := 225) d_law_225 (h1) ?_
  refine l_i2l (pc := 226) d_law_226 ?_
  refine l_bipush (pc := 227) d_law_227 k_b_32 ?_
  refine l_lshl (pc := 229) d_law_229 ?_
  refine l_aload_n (pc := 230) (q := 0) d_law_230 rfl rfl ?_
  refine l_iload_n (pc := 231) (q := 3) d_law_231 rfl rfl ?_
  refine l_iconst (pc := 232) d_law_232 k_i_2 ?_
  refine l_iadd (pc := 233) d_law_233 ?_
  refine l_ald (pc := 234) d_law_234 (h2) ?_
  refine l_i2l (pc := 235) d_law_235 ?_
  refine l_ldc2 (pc := 236) d_law_236 cl_Law_13 ?_
  refine l_land (pc := 239) d_law_239 ?_
  refine l_lor (pc := 240) d_law_240 ?_
  refine l_callM (pc := 241) (as := [.long ((((xs (i + 1).toNatClampNeg).toInt64) <<< ((32 : Int32).toInt64 &&& 63)) ||| (((xs (i + 2).toNatClampNeg).toInt64) &&& 4294967295))]) d_law_241 (C_Model_feed fuel ((((xs (i + 1).toNatClampNeg).toInt64) <<< ((32 : Int32).toInt64 &&& 63)) ||| (((xs (i + 2).toNatClampNeg).toInt64) &&& 4294967295)) _) hFm cV_Law_19 cd_Model_feed dn_Model_feed rfl rfl (by decide) (by decide) (Nat.le_of_ble_eq_true rfl) rfl (fun _ _ => rfl) ?_
  refine l_eq_t (pc := 244) (tgt := 1329) d_law_244 (by decide) ?_
  exact hend _ _ hR2
set_option maxHeartbeats 4000000 in
theorem law_case_1 {L : Nat} {xs : Nat → Int32} {i : Int32} (h0 : vp_in i L) (h1 : vp_in (i + 1) L) (h2 : vp_in (i + 2) L) (h3 : vp_in (i + 3) L) (h4 : vp_in (i + 4) L) {Mx Mm : Mem} (hR : Rel Mx Mm) (hFA : ∃ r Mx2 Mm2, X_ShakeHands_fault fuel Mx = some (r, Mx2) ∧ X_Model_fault fuel Mm = some (r, Mm2) ∧ Rel Mx2 Mm2) (hend : ∀ Mx2 Mm2, Rel Mx2 Mm2 → JL L xs 1329 [(0, .ref 301), (1, .ref 0), (2, .ref 300), (3, .int i)] [] Mx2 Mm2) : JL L xs 249 [(0, .ref 301), (1, .ref 0), (2, .ref 300), (3, .int i)] [] Mx Mm := by
  refine l_aload_n (pc := 249) (q := 1) d_law_249 rfl rfl ?_
  refine l_aload_n (pc := 250) (q := 0) d_law_250 rfl rfl ?_
  refine l_iload_n (pc := 251) (q := 3) d_law_251 rfl rfl ?_
  refine l_iconst (pc := 252) d_law_252 k_i_1 ?_
  refine l_iadd (pc := 253) d_law_253 ?_
  refine l_ald (pc := 254) d_law_254 (h1) ?_
  obtain ⟨r, Mx2, Mm2, hFx, hFm, hR2⟩ := sim_end (xs (i + 1).toNatClampNeg) _ _ hR
  refine l_callX (pc := 255) (as := [.int (xs (i + 1).toNatClampNeg)]) d_law_255 (C_ShakeHands_end fuel (xs (i + 1).toNatClampNeg) _) hFx cV_Law_20 cd_ShakeHands_end dn_ShakeHands_end rfl rfl (by decide) (by decide) (Nat.le_of_ble_eq_true rfl) rfl (fun _ _ => rfl) ?_
  refine l_aload_n (pc := 258) (q := 2) d_law_258 rfl rfl ?_
  refine l_aload_n (pc := 259) (q := 0) d_law_259 rfl rfl ?_
  refine l_iload_n (pc := 260) (q := 3) d_law_260 rfl rfl ?_
  refine l_iconst (pc := 261) d_law_261 k_i_1 ?_
  refine l_iadd (pc := 262) d_law_262 ?_
  refine l_ald (pc := 263) d_law_263 (h1) ?_
  refine l_callM (pc := 264) (as := [.int (xs (i + 1).toNatClampNeg)]) d_law_264 (C_Model_end fuel (xs (i + 1).toNatClampNeg) _) hFm cV_Law_24 cd_Model_end dn_Model_end rfl rfl (by decide) (by decide) (Nat.le_of_ble_eq_true rfl) rfl (fun _ _ => rfl) ?_
  refine l_eq_t (pc := 267) (tgt := 1329) d_law_267 (by decide) ?_
  exact hend _ _ hR2
set_option maxHeartbeats 4000000 in
theorem law_case_2 {L : Nat} {xs : Nat → Int32} {i : Int32} (h0 : vp_in i L) (h1 : vp_in (i + 1) L) (h2 : vp_in (i + 2) L) (h3 : vp_in (i + 3) L) (h4 : vp_in (i + 4) L) {Mx Mm : Mem} (hR : Rel Mx Mm) (hFA : ∃ r Mx2 Mm2, X_ShakeHands_fault fuel Mx = some (r, Mx2) ∧ X_Model_fault fuel Mm = some (r, Mm2) ∧ Rel Mx2 Mm2) (hend : ∀ Mx2 Mm2, Rel Mx2 Mm2 → JL L xs 1329 [(0, .ref 301), (1, .ref 0), (2, .ref 300), (3, .int i)] [] Mx2 Mm2) : JL L xs 272 [(0, .ref 301), (1, .ref 0), (2, .ref 300), (3, .int i)] [] Mx Mm := by
  refine l_aload_n (pc := 272) (q := 1) d_law_272 rfl rfl ?_
  obtain ⟨r, Mx2, Mm2, hFx, hFm, hR2⟩ := sim_text _ _ hR
  refine l_callX (pc := 273) (as := []) d_law_273 (C_ShakeHands_text fuel _) hFx cV_Law_25 cd_ShakeHands_text dn_ShakeHands_text rfl rfl (by decide) (by decide) (Nat.le_of_ble_eq_true rfl) rfl (fun _ _ => rfl) ?_
  refine l_aload_n (pc := 276) (q := 2) d_law_276 rfl rfl ?_
  refine l_callM (pc := 277) (as := []) d_law_277 (C_Model_text fuel _) hFm cV_Law_29 cd_Model_text dn_Model_text rfl rfl (by decide) (by decide) (Nat.le_of_ble_eq_true rfl) rfl (fun _ _ => rfl) ?_
  refine l_eq_t (pc := 280) (tgt := 1329) d_law_280 (by decide) ?_
  exact hend _ _ hR2
set_option maxHeartbeats 4000000 in
theorem law_case_3 {L : Nat} {xs : Nat → Int32} {i : Int32} (h0 : vp_in i L) (h1 : vp_in (i + 1) L) (h2 : vp_in (i + 2) L) (h3 : vp_in (i + 3) L) (h4 : vp_in (i + 4) L) {Mx Mm : Mem} (hR : Rel Mx Mm) (hFA : ∃ r Mx2 Mm2, X_ShakeHands_fault fuel Mx = some (r, Mx2) ∧ X_Model_fault fuel Mm = some (r, Mm2) ∧ Rel Mx2 Mm2) (hend : ∀ Mx2 Mm2, Rel Mx2 Mm2 → JL L xs 1329 [(0, .ref 301), (1, .ref 0), (2, .ref 300), (3, .int i)] [] Mx2 Mm2) : JL L xs 285 [(0, .ref 301), (1, .ref 0), (2, .ref 300), (3, .int i)] [] Mx Mm := by
  refine l_aload_n (pc := 285) (q := 1) d_law_285 rfl rfl ?_
  obtain ⟨r, Mx2, Mm2, hFx, hFm, hR2⟩ := hFA
  refine l_callX (pc := 286) (as := []) d_law_286 (C_ShakeHands_fault fuel _) hFx cV_Law_30 cd_ShakeHands_fault dn_ShakeHands_fault rfl rfl (by decide) (by decide) (Nat.le_of_ble_eq_true rfl) rfl (fun _ _ => rfl) ?_
  refine l_aload_n (pc := 289) (q := 2) d_law_289 rfl rfl ?_
  refine l_callM (pc := 290) (as := []) d_law_290 (C_Model_fault fuel _) hFm cV_Law_33 cd_Model_fault dn_Model_fault rfl rfl (by decide) (by decide) (Nat.le_of_ble_eq_true rfl) rfl (fun _ _ => rfl) ?_
  refine l_eq_t (pc := 293) (tgt := 1329) d_law_293 (by decide) ?_
  exact hend _ _ hR2
set_option maxHeartbeats 4000000 in
theorem law_case_4 {L : Nat} {xs : Nat → Int32} {i : Int32} (h0 : vp_in i L) (h1 : vp_in (i + 1) L) (h2 : vp_in (i + 2) L) (h3 : vp_in (i + 3) L) (h4 : vp_in (i + 4) L) {Mx Mm : Mem} (hR : Rel Mx Mm) (hFA : ∃ r Mx2 Mm2, X_ShakeHands_fault fuel Mx = some (r, Mx2) ∧ X_Model_fault fuel Mm = some (r, Mm2) ∧ Rel Mx2 Mm2) (hend : ∀ Mx2 Mm2, Rel Mx2 Mm2 → JL L xs 1329 [(0, .ref 301), (1, .ref 0), (2, .ref 300), (3, .int i)] [] Mx2 Mm2) : JL L xs 298 [(0, .ref 301), (1, .ref 0), (2, .ref 300), (3, .int i)] [] Mx Mm := by
  refine l_aload_n (pc := 298) (q := 1) d_law_298 rfl rfl ?_
  refine l_aload_n (pc := 299) (q := 0) d_law_299 rfl rfl ?_
  refine l_iload_n (pc := 300) (q := 3) d_law_300 rfl rfl ?_
  refine l_iconst (pc := 301) d_law_301 k_i_1 ?_
  refine l_iadd (pc := 302) d_law_302 ?_
  refine l_ald (pc := 303) d_law_303 (h1) ?_
  obtain ⟨r, Mx2, Mm2, hFx, hFm, hR2⟩ := sim_rule (xs (i + 1).toNatClampNeg) _ _ hR
  refine l_callX (pc := 304) (as := [.int (xs (i + 1).toNatClampNeg)]) d_law_304 (C_ShakeHands_rule fuel (xs (i + 1).toNatClampNeg) _) hFx cV_Law_34 cd_ShakeHands_rule dn_ShakeHands_rule rfl rfl (by decide) (by decide) (Nat.le_of_ble_eq_true rfl) rfl (fun _ _ => rfl) ?_
  refine l_aload_n (pc := 307) (q := 2) d_law_307 rfl rfl ?_
  refine l_aload_n (pc := 308) (q := 0) d_law_308 rfl rfl ?_
  refine l_iload_n (pc := 309) (q := 3) d_law_309 rfl rfl ?_
  refine l_iconst (pc := 310) d_law_310 k_i_1 ?_
  refine l_iadd (pc := 311) d_law_311 ?_
  refine l_ald (pc := 312) d_law_312 (h1) ?_
  refine l_callM (pc := 313) (as := [.int (xs (i + 1).toNatClampNeg)]) d_law_313 (C_Model_rule fuel (xs (i + 1).toNatClampNeg) _) hFm cV_Law_37 cd_Model_rule dn_Model_rule rfl rfl (by decide) (by decide) (Nat.le_of_ble_eq_true rfl) rfl (fun _ _ => rfl) ?_
  refine l_eq_t (pc := 316) (tgt := 1329) d_law_316 (by decide) ?_
  exact hend _ _ hR2
set_option maxHeartbeats 4000000 in
theorem law_case_5 {L : Nat} {xs : Nat → Int32} {i : Int32} (h0 : vp_in i L) (h1 : vp_in (i + 1) L) (h2 : vp_in (i + 2) L) (h3 : vp_in (i + 3) L) (h4 : vp_in (i + 4) L) {Mx Mm : Mem} (hR : Rel Mx Mm) (hFA : ∃ r Mx2 Mm2, X_ShakeHands_fault fuel Mx = some (r, Mx2) ∧ X_Model_fault fuel Mm = some (r, Mm2) ∧ Rel Mx2 Mm2) (hend : ∀ Mx2 Mm2, Rel Mx2 Mm2 → JL L xs 1329 [(0, .ref 301), (1, .ref 0), (2, .ref 300), (3, .int i)] [] Mx2 Mm2) : JL L xs 321 [(0, .ref 301), (1, .ref 0), (2, .ref 300), (3, .int i)] [] Mx Mm := by
  refine l_aload_n (pc := 321) (q := 1) d_law_321 rfl rfl ?_
  refine l_aload_n (pc := 322) (q := 0) d_law_322 rfl rfl ?_
  refine l_iload_n (pc := 323) (q := 3) d_law_323 rfl rfl ?_
  refine l_iconst (pc := 324) d_law_324 k_i_1 ?_
  refine l_iadd (pc := 325) d_law_325 ?_
  refine l_ald (pc := 326) d_law_326 (h1) ?_
  refine l_aload_n (pc := 327) (q := 0) d_law_327 rfl rfl ?_
  refine l_iload_n (pc := 328) (q := 3) d_law_328 rfl rfl ?_
  refine l_iconst (pc := 329) d_law_329 k_i_2 ?_
  refine l_iadd (pc := 330) d_law_330 ?_
  refine l_ald (pc := 331) d_law_331 (h2) ?_
  by_cases hc : xs (i + 2).toNatClampNeg = 0
  · refine l_ifeq_t (pc := 332) (tgt := 339) d_law_332 (by decide) hc ?_
    refine l_iconst (pc := 339) d_law_339 k_i_0 ?_
    obtain ⟨r, Mx2, Mm2, hFx, hFm, hR2⟩ := sim_hand (xs (i + 1).toNatClampNeg) (0 : Int32) _ _ hR
    refine l_callX (pc := 340) (as := [.int (xs (i + 1).toNatClampNeg), .int 0]) d_law_340 (C_ShakeHands_hand fuel (xs (i + 1).toNatClampNeg) 0 _) hFx cV_Law_38 cd_ShakeHands_hand dn_ShakeHands_hand rfl rfl (by decide) (by decide) (Nat.le_of_ble_eq_true rfl) rfl (fun _ _ => rfl) ?_
    refine l_aload_n (pc := 343) (q := 2) d_law_343 rfl rfl ?_
    refine l_aload_n (pc := 344) (q := 0) d_law_344 rfl rfl ?_
    refine l_iload_n (pc := 345) (q := 3) d_law_345 rfl rfl ?_
    refine l_iconst (pc := 346) d_law_346 k_i_1 ?_
    refine l_iadd (pc := 347) d_law_347 ?_
    refine l_ald (pc := 348) d_law_348 (h1) ?_
    refine l_aload_n (pc := 349) (q := 0) d_law_349 rfl rfl ?_
    refine l_iload_n (pc := 350) (q := 3) d_law_350 rfl rfl ?_
    refine l_iconst (pc := 351) d_law_351 k_i_2 ?_
    refine l_iadd (pc := 352) d_law_352 ?_
    refine l_ald (pc := 353) d_law_353 (h2) ?_
    refine l_ifeq_t (pc := 354) (tgt := 361) d_law_354 (by decide) hc ?_
    refine l_iconst (pc := 361) d_law_361 k_i_0 ?_
    refine l_callM (pc := 362) (as := [.int (xs (i + 1).toNatClampNeg), .int 0]) d_law_362 (C_Model_hand fuel (xs (i + 1).toNatClampNeg) 0 _) hFm cV_Law_42 cd_Model_hand dn_Model_hand rfl rfl (by decide) (by decide) (Nat.le_of_ble_eq_true rfl) rfl (fun _ _ => rfl) ?_
    refine l_eq_t (pc := 365) (tgt := 1329) d_law_365 (by decide) ?_
    exact hend _ _ hR2
  · refine l_ifeq_f (pc := 332) (tgt := 339) d_law_332 (by decide) hc ?_
    refine l_iconst (pc := 335) d_law_335 k_i_1 ?_
    refine l_goto (pc := 336) (tgt := 340) d_law_336 (by decide) ?_
    obtain ⟨r, Mx2, Mm2, hFx, hFm, hR2⟩ := sim_hand (xs (i + 1).toNatClampNeg) (1 : Int32) _ _ hR
    refine l_callX (pc := 340) (as := [.int (xs (i + 1).toNatClampNeg), .int 1]) d_law_340 (C_ShakeHands_hand fuel (xs (i + 1).toNatClampNeg) 1 _) hFx cV_Law_38 cd_ShakeHands_hand dn_ShakeHands_hand rfl rfl (by decide) (by decide) (Nat.le_of_ble_eq_true rfl) rfl (fun _ _ => rfl) ?_
    refine l_aload_n (pc := 343) (q := 2) d_law_343 rfl rfl ?_
    refine l_aload_n (pc := 344) (q := 0) d_law_344 rfl rfl ?_
    refine l_iload_n (pc := 345) (q := 3) d_law_345 rfl rfl ?_
    refine l_iconst (pc := 346) d_law_346 k_i_1 ?_
    refine l_iadd (pc := 347) d_law_347 ?_
    refine l_ald (pc := 348) d_law_348 (h1) ?_
    refine l_aload_n (pc := 349) (q := 0) d_law_349 rfl rfl ?_
    refine l_iload_n (pc := 350) (q := 3) d_law_350 rfl rfl ?_
    refine l_iconst (pc := 351) d_law_351 k_i_2 ?_
    refine l_iadd (pc := 352) d_law_352 ?_
    refine l_ald (pc := 353) d_law_353 (h2) ?_
    refine l_ifeq_f (pc := 354) (tgt := 361) d_law_354 (by decide) hc ?_
    refine l_iconst (pc := 357) d_law_357 k_i_1 ?_
    refine l_goto (pc := 358) (tgt := 362) d_law_358 (by decide) ?_
    refine l_callM (pc := 362) (as := [.int (xs (i + 1).toNatClampNeg), .int 1]) d_law_362 (C_Model_hand fuel (xs (i + 1).toNatClampNeg) 1 _) hFm cV_Law_42 cd_Model_hand dn_Model_hand rfl rfl (by decide) (by decide) (Nat.le_of_ble_eq_true rfl) rfl (fun _ _ => rfl) ?_
    refine l_eq_t (pc := 365) (tgt := 1329) d_law_365 (by decide) ?_
    exact hend _ _ hR2
set_option maxHeartbeats 4000000 in
theorem law_case_6 {L : Nat} {xs : Nat → Int32} {i : Int32} (h0 : vp_in i L) (h1 : vp_in (i + 1) L) (h2 : vp_in (i + 2) L) (h3 : vp_in (i + 3) L) (h4 : vp_in (i + 4) L) {Mx Mm : Mem} (hR : Rel Mx Mm) (hFA : ∃ r Mx2 Mm2, X_ShakeHands_fault fuel Mx = some (r, Mx2) ∧ X_Model_fault fuel Mm = some (r, Mm2) ∧ Rel Mx2 Mm2) (hend : ∀ Mx2 Mm2, Rel Mx2 Mm2 → JL L xs 1329 [(0, .ref 301), (1, .ref 0), (2, .ref 300), (3, .int i)] [] Mx2 Mm2) : JL L xs 370 [(0, .ref 301), (1, .ref 0), (2, .ref 300), (3, .int i)] [] Mx Mm := by
  refine l_aload_n (pc := 370) (q := 1) d_law_370 rfl rfl ?_
  refine l_aload_n (pc := 371) (q := 0) d_law_371 rfl rfl ?_
  refine l_iload_n (pc := 372) (q := 3) d_law_372 rfl rfl ?_
  refine l_iconst (pc := 373) d_law_373 k_i_1 ?_
  refine l_iadd (pc := 374) d_law_374 ?_
  refine l_ald (pc := 375) d_law_375 (h1) ?_
  refine l_aload_n (pc := 376) (q := 0) d_law_376 rfl rfl ?_
  refine l_iload_n (pc := 377) (q := 3) d_law_377 rfl rfl ?_
  refine l_iconst (pc := 378) d_law_378 k_i_2 ?_
  refine l_iadd (pc := 379) d_law_379 ?_
  refine l_ald (pc := 380) d_law_380 (h2) ?_
  obtain ⟨r, Mx2, Mm2, hFx, hFm, hR2⟩ := sim_join (xs (i + 1).toNatClampNeg) (xs (i + 2).toNatClampNeg) _ _ hR
  refine l_callX (pc := 381) (as := [.int (xs (i + 1).toNatClampNeg), .int (xs (i + 2).toNatClampNeg)]) d_law_381 (C_ShakeHands_join fuel (xs (i + 1).toNatClampNeg) (xs (i + 2).toNatClampNeg) _) hFx cV_Law_43 cd_ShakeHands_join dn_ShakeHands_join rfl rfl (by decide) (by decide) (Nat.le_of_ble_eq_true rfl) rfl (fun _ _ => rfl) ?_
  refine l_aload_n (pc := 384) (q := 2) d_law_384 rfl rfl ?_
  refine l_aload_n (pc := 385) (q := 0) d_law_385 rfl rfl ?_
  refine l_iload_n (pc := 386) (q := 3) d_law_386 rfl rfl ?_
  refine l_iconst (pc := 387) d_law_387 k_i_1 ?_
  refine l_iadd (pc := 388) d_law_388 ?_
  refine l_ald (pc := 389) d_law_389 (h1) ?_
  refine l_aload_n (pc := 390) (q := 0) d_law_390 rfl rfl ?_
  refine l_iload_n (pc := 391) (q := 3) d_law_391 rfl rfl ?_
  refine l_iconst (pc := 392) d_law_392 k_i_2 ?_
  refine l_iadd (pc := 393) d_law_393 ?_
  refine l_ald (pc := 394) d_law_394 (h2) ?_
  refine l_callM (pc := 395) (as := [.int (xs (i + 1).toNatClampNeg), .int (xs (i + 2).toNatClampNeg)]) d_law_395 (C_Model_join fuel (xs (i + 1).toNatClampNeg) (xs (i + 2).toNatClampNeg) _) hFm cV_Law_47 cd_Model_join dn_Model_join rfl rfl (by decide) (by decide) (Nat.le_of_ble_eq_true rfl) rfl (fun _ _ => rfl) ?_
  refine l_eq_t (pc := 398) (tgt := 1329) d_law_398 (by decide) ?_
  exact hend _ _ hR2
set_option maxHeartbeats 4000000 in
theorem law_case_7 {L : Nat} {xs : Nat → Int32} {i : Int32} (h0 : vp_in i L) (h1 : vp_in (i + 1) L) (h2 : vp_in (i + 2) L) (h3 : vp_in (i + 3) L) (h4 : vp_in (i + 4) L) {Mx Mm : Mem} (hR : Rel Mx Mm) (hFA : ∃ r Mx2 Mm2, X_ShakeHands_fault fuel Mx = some (r, Mx2) ∧ X_Model_fault fuel Mm = some (r, Mm2) ∧ Rel Mx2 Mm2) (hend : ∀ Mx2 Mm2, Rel Mx2 Mm2 → JL L xs 1329 [(0, .ref 301), (1, .ref 0), (2, .ref 300), (3, .int i)] [] Mx2 Mm2) : JL L xs 403 [(0, .ref 301), (1, .ref 0), (2, .ref 300), (3, .int i)] [] Mx Mm := by
  refine l_aload_n (pc := 403) (q := 1) d_law_403 rfl rfl ?_
  refine l_aload_n (pc := 404) (q := 0) d_law_404 rfl rfl ?_
  refine l_iload_n (pc := 405) (q := 3) d_law_405 rfl rfl ?_
  refine l_iconst (pc := 406) d_law_406 k_i_1 ?_
  refine l_iadd (pc := 407) d_law_407 ?_
  refine l_ald (pc := 408) d_law_408 (h1) ?_
  obtain ⟨r, Mx2, Mm2, hFx, hFm, hR2⟩ := sim_knows (xs (i + 1).toNatClampNeg) _ _ hR
  refine l_callX (pc := 409) (as := [.int (xs (i + 1).toNatClampNeg)]) d_law_409 (C_ShakeHands_knows fuel (xs (i + 1).toNatClampNeg) _) hFx cV_Law_48 cd_ShakeHands_knows dn_ShakeHands_knows rfl rfl (by decide) (by decide) (Nat.le_of_ble_eq_true rfl) rfl (fun _ _ => rfl) ?_
  refine l_aload_n (pc := 412) (q := 2) d_law_412 rfl rfl ?_
  refine l_aload_n (pc := 413) (q := 0) d_law_413 rfl rfl ?_
  refine l_iload_n (pc := 414) (q := 3) d_law_414 rfl rfl ?_
  refine l_iconst (pc := 415) d_law_415 k_i_1 ?_
  refine l_iadd (pc := 416) d_law_416 ?_
  refine l_ald (pc := 417) d_law_417 (h1) ?_
  refine l_callM (pc := 418) (as := [.int (xs (i + 1).toNatClampNeg)]) d_law_418 (C_Model_knows fuel (xs (i + 1).toNatClampNeg) _) hFm cV_Law_51 cd_Model_knows dn_Model_knows rfl rfl (by decide) (by decide) (Nat.le_of_ble_eq_true rfl) rfl (fun _ _ => rfl) ?_
  refine l_eq_t (pc := 421) (tgt := 1329) d_law_421 (by decide) ?_
  exact hend _ _ hR2
set_option maxHeartbeats 4000000 in
theorem law_case_8 {L : Nat} {xs : Nat → Int32} {i : Int32} (h0 : vp_in i L) (h1 : vp_in (i + 1) L) (h2 : vp_in (i + 2) L) (h3 : vp_in (i + 3) L) (h4 : vp_in (i + 4) L) {Mx Mm : Mem} (hR : Rel Mx Mm) (hFA : ∃ r Mx2 Mm2, X_ShakeHands_fault fuel Mx = some (r, Mx2) ∧ X_Model_fault fuel Mm = some (r, Mm2) ∧ Rel Mx2 Mm2) (hend : ∀ Mx2 Mm2, Rel Mx2 Mm2 → JL L xs 1329 [(0, .ref 301), (1, .ref 0), (2, .ref 300), (3, .int i)] [] Mx2 Mm2) : JL L xs 426 [(0, .ref 301), (1, .ref 0), (2, .ref 300), (3, .int i)] [] Mx Mm := by
  refine l_aload_n (pc := 426) (q := 1) d_law_426 rfl rfl ?_
  refine l_aload_n (pc := 427) (q := 0) d_law_427 rfl rfl ?_
  refine l_iload_n (pc := 428) (q := 3) d_law_428 rfl rfl ?_
  refine l_iconst (pc := 429) d_law_429 k_i_1 ?_
  refine l_iadd (pc := 430) d_law_430 ?_
  refine l_ald (pc := 431) d_law_431 (h1) ?_
  refine l_aload_n (pc := 432) (q := 0) d_law_432 rfl rfl ?_
  refine l_iload_n (pc := 433) (q := 3) d_law_433 rfl rfl ?_
  refine l_iconst (pc := 434) d_law_434 k_i_2 ?_
  refine l_iadd (pc := 435) d_law_435 ?_
  refine l_ald (pc := 436) d_law_436 (h2) ?_
  obtain ⟨r, Mx2, Mm2, hFx, hFm, hR2⟩ := sim_row (xs (i + 1).toNatClampNeg) (xs (i + 2).toNatClampNeg) _ _ hR
  refine l_callX (pc := 437) (as := [.int (xs (i + 1).toNatClampNeg), .int (xs (i + 2).toNatClampNeg)]) d_law_437 (C_ShakeHands_row fuel (xs (i + 1).toNatClampNeg) (xs (i + 2).toNatClampNeg) _) hFx cV_Law_52 cd_ShakeHands_row dn_ShakeHands_row rfl rfl (by decide) (by decide) (Nat.le_of_ble_eq_true rfl) rfl (fun _ _ => rfl) ?_
  refine l_aload_n (pc := 440) (q := 2) d_law_440 rfl rfl ?_
  refine l_aload_n (pc := 441) (q := 0) d_law_441 rfl rfl ?_
  refine l_iload_n (pc := 442) (q := 3) d_law_442 rfl rfl ?_
  refine l_iconst (pc := 443) d_law_443 k_i_1 ?_
  refine l_iadd (pc := 444) d_law_444 ?_
  refine l_ald (pc := 445) d_law_445 (h1) ?_
  refine l_aload_n (pc := 446) (q := 0) d_law_446 rfl rfl ?_
  refine l_iload_n (pc := 447) (q := 3) d_law_447 rfl rfl ?_
  refine l_iconst (pc := 448) d_law_448 k_i_2 ?_
  refine l_iadd (pc := 449) d_law_449 ?_
  refine l_ald (pc := 450) d_law_450 (h2) ?_
  refine l_callM (pc := 451) (as := [.int (xs (i + 1).toNatClampNeg), .int (xs (i + 2).toNatClampNeg)]) d_law_451 (C_Model_row fuel (xs (i + 1).toNatClampNeg) (xs (i + 2).toNatClampNeg) _) hFm cV_Law_55 cd_Model_row dn_Model_row rfl rfl (by decide) (by decide) (Nat.le_of_ble_eq_true rfl) rfl (fun _ _ => rfl) ?_
  refine l_eq_t (pc := 454) (tgt := 1329) d_law_454 (by decide) ?_
  exact hend _ _ hR2
set_option maxHeartbeats 4000000 in
theorem law_case_9 {L : Nat} {xs : Nat → Int32} {i : Int32} (h0 : vp_in i L) (h1 : vp_in (i + 1) L) (h2 : vp_in (i + 2) L) (h3 : vp_in (i + 3) L) (h4 : vp_in (i + 4) L) {Mx Mm : Mem} (hR : Rel Mx Mm) (hFA : ∃ r Mx2 Mm2, X_ShakeHands_fault fuel Mx = some (r, Mx2) ∧ X_Model_fault fuel Mm = some (r, Mm2) ∧ Rel Mx2 Mm2) (hend : ∀ Mx2 Mm2, Rel Mx2 Mm2 → JL L xs 1329 [(0, .ref 301), (1, .ref 0), (2, .ref 300), (3, .int i)] [] Mx2 Mm2) : JL L xs 459 [(0, .ref 301), (1, .ref 0), (2, .ref 300), (3, .int i)] [] Mx Mm := by
  refine l_aload_n (pc := 459) (q := 1) d_law_459 rfl rfl ?_
  refine l_aload_n (pc := 460) (q := 0) d_law_460 rfl rfl ?_
  refine l_iload_n (pc := 461) (q := 3) d_law_461 rfl rfl ?_
  refine l_iconst (pc := 462) d_law_462 k_i_1 ?_
  refine l_iadd (pc := 463) d_law_463 ?_
  refine l_ald (pc := 464) d_law_464 (h1) ?_
  obtain ⟨r, Mx2, Mm2, hFx, hFm, hR2⟩ := sim_who (xs (i + 1).toNatClampNeg) _ _ hR
  refine l_callX (pc := 465) (as := [.int (xs (i + 1).toNatClampNeg)]) d_law_465 (C_ShakeHands_who fuel (xs (i + 1).toNatClampNeg) _) hFx cV_Law_56 cd_ShakeHands_who dn_ShakeHands_who rfl rfl (by decide) (by decide) (Nat.le_of_ble_eq_true rfl) rfl (fun _ _ => rfl) ?_
  refine l_aload_n (pc := 468) (q := 2) d_law_468 rfl rfl ?_
  refine l_aload_n (pc := 469) (q := 0) d_law_469 rfl rfl ?_
  refine l_iload_n (pc := 470) (q := 3) d_law_470 rfl rfl ?_
  refine l_iconst (pc := 471) d_law_471 k_i_1 ?_
  refine l_iadd (pc := 472) d_law_472 ?_
  refine l_ald (pc := 473) d_law_473 (h1) ?_
  refine l_callM (pc := 474) (as := [.int (xs (i + 1).toNatClampNeg)]) d_law_474 (C_Model_who fuel (xs (i + 1).toNatClampNeg) _) hFm cV_Law_59 cd_Model_who dn_Model_who rfl rfl (by decide) (by decide) (Nat.le_of_ble_eq_true rfl) rfl (fun _ _ => rfl) ?_
  refine l_eq_t (pc := 477) (tgt := 1329) d_law_477 (by decide) ?_
  exact hend _ _ hR2
set_option maxHeartbeats 4000000 in
theorem law_case_10 {L : Nat} {xs : Nat → Int32} {i : Int32} (h0 : vp_in i L) (h1 : vp_in (i + 1) L) (h2 : vp_in (i + 2) L) (h3 : vp_in (i + 3) L) (h4 : vp_in (i + 4) L) {Mx Mm : Mem} (hR : Rel Mx Mm) (hFA : ∃ r Mx2 Mm2, X_ShakeHands_fault fuel Mx = some (r, Mx2) ∧ X_Model_fault fuel Mm = some (r, Mm2) ∧ Rel Mx2 Mm2) (hend : ∀ Mx2 Mm2, Rel Mx2 Mm2 → JL L xs 1329 [(0, .ref 301), (1, .ref 0), (2, .ref 300), (3, .int i)] [] Mx2 Mm2) : JL L xs 482 [(0, .ref 301), (1, .ref 0), (2, .ref 300), (3, .int i)] [] Mx Mm := by
  refine l_aload_n (pc := 482) (q := 1) d_law_482 rfl rfl ?_
  refine l_aload_n (pc := 483) (q := 0) d_law_483 rfl rfl ?_
  refine l_iload_n (pc := 484) (q := 3) d_law_484 rfl rfl ?_
  refine l_iconst (pc := 485) d_law_485 k_i_1 ?_
  refine l_iadd (pc := 486) d_law_486 ?_
  refine l_ald (pc := 487) d_law_487 (h1) ?_
  refine l_aload_n (pc := 488) (q := 0) d_law_488 rfl rfl ?_
  refine l_iload_n (pc := 489) (q := 3) d_law_489 rfl rfl ?_
  refine l_iconst (pc := 490) d_law_490 k_i_2 ?_
  refine l_iadd (pc := 491) d_law_491 ?_
  refine l_ald (pc := 492) d_law_492 (h2) ?_
  obtain ⟨r, Mx2, Mm2, hFx, hFm, hR2⟩ := sim_learn (xs (i + 1).toNatClampNeg) (xs (i + 2).toNatClampNeg) _ _ hR
  refine l_callX (pc := 493) (as := [.int (xs (i + 1).toNatClampNeg), .int (xs (i + 2).toNatClampNeg)]) d_law_493 (C_ShakeHands_learn fuel (xs (i + 1).toNatClampNeg) (xs (i + 2).toNatClampNeg) _) hFx cV_Law_60 cd_ShakeHands_learn dn_ShakeHands_learn rfl rfl (by decide) (by decide) (Nat.le_of_ble_eq_true rfl) rfl (fun _ _ => rfl) ?_
  refine l_aload_n (pc := 496) (q := 2) d_law_496 rfl rfl ?_
  refine l_aload_n (pc := 497) (q := 0) d_law_497 rfl rfl ?_
  refine l_iload_n (pc := 498) (q := 3) d_law_498 rfl rfl ?_
  refine l_iconst (pc := 499) d_law_499 k_i_1 ?_
  refine l_iadd (pc := 500) d_law_500 ?_
  refine l_ald (pc := 501) d_law_501 (h1) ?_
  refine l_aload_n (pc := 502) (q := 0) d_law_502 rfl rfl ?_
  refine l_iload_n (pc := 503) (q := 3) d_law_503 rfl rfl ?_
  refine l_iconst (pc := 504) d_law_504 k_i_2 ?_
  refine l_iadd (pc := 505) d_law_505 ?_
  refine l_ald (pc := 506) d_law_506 (h2) ?_
  refine l_callM (pc := 507) (as := [.int (xs (i + 1).toNatClampNeg), .int (xs (i + 2).toNatClampNeg)]) d_law_507 (C_Model_learn fuel (xs (i + 1).toNatClampNeg) (xs (i + 2).toNatClampNeg) _) hFm cV_Law_63 cd_Model_learn dn_Model_learn rfl rfl (by decide) (by decide) (Nat.le_of_ble_eq_true rfl) rfl (fun _ _ => rfl) ?_
  refine l_eq_t (pc := 510) (tgt := 1329) d_law_510 (by decide) ?_
  exact hend _ _ hR2
set_option maxHeartbeats 4000000 in
theorem law_case_11 {L : Nat} {xs : Nat → Int32} {i : Int32} (h0 : vp_in i L) (h1 : vp_in (i + 1) L) (h2 : vp_in (i + 2) L) (h3 : vp_in (i + 3) L) (h4 : vp_in (i + 4) L) {Mx Mm : Mem} (hR : Rel Mx Mm) (hFA : ∃ r Mx2 Mm2, X_ShakeHands_fault fuel Mx = some (r, Mx2) ∧ X_Model_fault fuel Mm = some (r, Mm2) ∧ Rel Mx2 Mm2) (hend : ∀ Mx2 Mm2, Rel Mx2 Mm2 → JL L xs 1329 [(0, .ref 301), (1, .ref 0), (2, .ref 300), (3, .int i)] [] Mx2 Mm2) : JL L xs 515 [(0, .ref 301), (1, .ref 0), (2, .ref 300), (3, .int i)] [] Mx Mm := by
  refine l_aload_n (pc := 515) (q := 1) d_law_515 rfl rfl ?_
  refine l_aload_n (pc := 516) (q := 0) d_law_516 rfl rfl ?_
  refine l_iload_n (pc := 517) (q := 3) d_law_517 rfl rfl ?_
  refine l_iconst (pc := 518) d_law_518 k_i_1 ?_
  refine l_iadd (pc := 519) d_law_519 ?_
  refine l_ald (pc := 520) d_law_520 (h1) ?_
  refine l_aload_n (pc := 521) (q := 0) d_law_521 rfl rfl ?_
  refine l_iload_n (pc := 522) (q := 3) d_law_522 rfl rfl ?_
  refine l_iconst (pc := 523) d_law_523 k_i_2 ?_
  refine l_iadd (pc := 524) d_law_524 ?_
  refine l_ald (pc := 525) d_law_525 (h2) ?_
  obtain ⟨r, Mx2, Mm2, hFx, hFm, hR2⟩ := sim_forget (xs (i + 1).toNatClampNeg) (xs (i + 2).toNatClampNeg) _ _ hR
  refine l_callX (pc := 526) (as := [.int (xs (i + 1).toNatClampNeg), .int (xs (i + 2).toNatClampNeg)]) d_law_526 (C_ShakeHands_forget fuel (xs (i + 1).toNatClampNeg) (xs (i + 2).toNatClampNeg) _) hFx cV_Law_64 cd_ShakeHands_forget dn_ShakeHands_forget rfl rfl (by decide) (by decide) (Nat.le_of_ble_eq_true rfl) rfl (fun _ _ => rfl) ?_
  refine l_aload_n (pc := 529) (q := 2) d_law_529 rfl rfl ?_
  refine l_aload_n (pc := 530) (q := 0) d_law_530 rfl rfl ?_
  refine l_iload_n (pc := 531) (q := 3) d_law_531 rfl rfl ?_
  refine l_iconst (pc := 532) d_law_532 k_i_1 ?_
  refine l_iadd (pc := 533) d_law_533 ?_
  refine l_ald (pc := 534) d_law_534 (h1) ?_
  refine l_aload_n (pc := 535) (q := 0) d_law_535 rfl rfl ?_
  refine l_iload_n (pc := 536) (q := 3) d_law_536 rfl rfl ?_
  refine l_iconst (pc := 537) d_law_537 k_i_2 ?_
  refine l_iadd (pc := 538) d_law_538 ?_
  refine l_ald (pc := 539) d_law_539 (h2) ?_
  refine l_callM (pc := 540) (as := [.int (xs (i + 1).toNatClampNeg), .int (xs (i + 2).toNatClampNeg)]) d_law_540 (C_Model_forget fuel (xs (i + 1).toNatClampNeg) (xs (i + 2).toNatClampNeg) _) hFm cV_Law_67 cd_Model_forget dn_Model_forget rfl rfl (by decide) (by decide) (Nat.le_of_ble_eq_true rfl) rfl (fun _ _ => rfl) ?_
  refine l_eq_t (pc := 543) (tgt := 1329) d_law_543 (by decide) ?_
  exact hend _ _ hR2
set_option maxHeartbeats 4000000 in
theorem law_case_12 {L : Nat} {xs : Nat → Int32} {i : Int32} (h0 : vp_in i L) (h1 : vp_in (i + 1) L) (h2 : vp_in (i + 2) L) (h3 : vp_in (i + 3) L) (h4 : vp_in (i + 4) L) {Mx Mm : Mem} (hR : Rel Mx Mm) (hFA : ∃ r Mx2 Mm2, X_ShakeHands_fault fuel Mx = some (r, Mx2) ∧ X_Model_fault fuel Mm = some (r, Mm2) ∧ Rel Mx2 Mm2) (hend : ∀ Mx2 Mm2, Rel Mx2 Mm2 → JL L xs 1329 [(0, .ref 301), (1, .ref 0), (2, .ref 300), (3, .int i)] [] Mx2 Mm2) : JL L xs 548 [(0, .ref 301), (1, .ref 0), (2, .ref 300), (3, .int i)] [] Mx Mm := by
  refine l_aload_n (pc := 548) (q := 1) d_law_548 rfl rfl ?_
  refine l_aload_n (pc := 549) (q := 0) d_law_549 rfl rfl ?_
  refine l_iload_n (pc := 550) (q := 3) d_law_550 rfl rfl ?_
  refine l_iconst (pc := 551) d_law_551 k_i_1 ?_
  refine l_iadd (pc := 552) d_law_552 ?_
  refine l_ald (pc := 553) d_law_553 (h1) ?_
  refine l_aload_n (pc := 554) (q := 0) d_law_554 rfl rfl ?_
  refine l_iload_n (pc := 555) (q := 3) d_law_555 rfl rfl ?_
  refine l_iconst (pc := 556) d_law_556 k_i_2 ?_
  refine l_iadd (pc := 557) d_law_557 ?_
  refine l_ald (pc := 558) d_law_558 (h2) ?_
  by_cases hc : xs (i + 2).toNatClampNeg = 0
  · refine l_ifeq_t (pc := 559) (tgt := 566) d_law_559 (by decide) hc ?_
    refine l_iconst (pc := 566) d_law_566 k_i_0 ?_
    obtain ⟨r, Mx2, Mm2, hFx, hFm, hR2⟩ := sim_glove (xs (i + 1).toNatClampNeg) (0 : Int32) _ _ hR
    refine l_callX (pc := 567) (as := [.int (xs (i + 1).toNatClampNeg), .int 0]) d_law_567 (C_ShakeHands_glove fuel (xs (i + 1).toNatClampNeg) 0 _) hFx cV_Law_68 cd_ShakeHands_glove dn_ShakeHands_glove rfl rfl (by decide) (by decide) (Nat.le_of_ble_eq_true rfl) rfl (fun _ _ => rfl) ?_
    refine l_aload_n (pc := 570) (q := 2) d_law_570 rfl rfl ?_
    refine l_aload_n (pc := 571) (q := 0) d_law_571 rfl rfl ?_
    refine l_iload_n (pc := 572) (q := 3) d_law_572 rfl rfl ?_
    refine l_iconst (pc := 573) d_law_573 k_i_1 ?_
    refine l_iadd (pc := 574) d_law_574 ?_
    refine l_ald (pc := 575) d_law_575 (h1) ?_
    refine l_aload_n (pc := 576) (q := 0) d_law_576 rfl rfl ?_
    refine l_iload_n (pc := 577) (q := 3) d_law_577 rfl rfl ?_
    refine l_iconst (pc := 578) d_law_578 k_i_2 ?_
    refine l_iadd (pc := 579) d_law_579 ?_
    refine l_ald (pc := 580) d_law_580 (h2) ?_
    refine l_ifeq_t (pc := 581) (tgt := 588) d_law_581 (by decide) hc ?_
    refine l_iconst (pc := 588) d_law_588 k_i_0 ?_
    refine l_callM (pc := 589) (as := [.int (xs (i + 1).toNatClampNeg), .int 0]) d_law_589 (C_Model_glove fuel (xs (i + 1).toNatClampNeg) 0 _) hFm cV_Law_71 cd_Model_glove dn_Model_glove rfl rfl (by decide) (by decide) (Nat.le_of_ble_eq_true rfl) rfl (fun _ _ => rfl) ?_
    refine l_eq_t (pc := 592) (tgt := 1329) d_law_592 (by decide) ?_
    exact hend _ _ hR2
  · refine l_ifeq_f (pc := 559) (tgt := 566) d_law_559 (by decide) hc ?_
    refine l_iconst (pc := 562) d_law_562 k_i_1 ?_
    refine l_goto (pc := 563) (tgt := 567) d_law_563 (by decide) ?_
    obtain ⟨r, Mx2, Mm2, hFx, hFm, hR2⟩ := sim_glove (xs (i + 1).toNatClampNeg) (1 : Int32) _ _ hR
    refine l_callX (pc := 567) (as := [.int (xs (i + 1).toNatClampNeg), .int 1]) d_law_567 (C_ShakeHands_glove fuel (xs (i + 1).toNatClampNeg) 1 _) hFx cV_Law_68 cd_ShakeHands_glove dn_ShakeHands_glove rfl rfl (by decide) (by decide) (Nat.le_of_ble_eq_true rfl) rfl (fun _ _ => rfl) ?_
    refine l_aload_n (pc := 570) (q := 2) d_law_570 rfl rfl ?_
    refine l_aload_n (pc := 571) (q := 0) d_law_571 rfl rfl ?_
    refine l_iload_n (pc := 572) (q := 3) d_law_572 rfl rfl ?_
    refine l_iconst (pc := 573) d_law_573 k_i_1 ?_
    refine l_iadd (pc := 574) d_law_574 ?_
    refine l_ald (pc := 575) d_law_575 (h1) ?_
    refine l_aload_n (pc := 576) (q := 0) d_law_576 rfl rfl ?_
    refine l_iload_n (pc := 577) (q := 3) d_law_577 rfl rfl ?_
    refine l_iconst (pc := 578) d_law_578 k_i_2 ?_
    refine l_iadd (pc := 579) d_law_579 ?_
    refine l_ald (pc := 580) d_law_580 (h2) ?_
    refine l_ifeq_f (pc := 581) (tgt := 588) d_law_581 (by decide) hc ?_
    refine l_iconst (pc := 584) d_law_584 k_i_1 ?_
    refine l_goto (pc := 585) (tgt := 589) d_law_585 (by decide) ?_
    refine l_callM (pc := 589) (as := [.int (xs (i + 1).toNatClampNeg), .int 1]) d_law_589 (C_Model_glove fuel (xs (i + 1).toNatClampNeg) 1 _) hFm cV_Law_71 cd_Model_glove dn_Model_glove rfl rfl (by decide) (by decide) (Nat.le_of_ble_eq_true rfl) rfl (fun _ _ => rfl) ?_
    refine l_eq_t (pc := 592) (tgt := 1329) d_law_592 (by decide) ?_
    exact hend _ _ hR2
set_option maxHeartbeats 4000000 in
theorem law_case_13 {L : Nat} {xs : Nat → Int32} {i : Int32} (h0 : vp_in i L) (h1 : vp_in (i + 1) L) (h2 : vp_in (i + 2) L) (h3 : vp_in (i + 3) L) (h4 : vp_in (i + 4) L) {Mx Mm : Mem} (hR : Rel Mx Mm) (hFA : ∃ r Mx2 Mm2, X_ShakeHands_fault fuel Mx = some (r, Mx2) ∧ X_Model_fault fuel Mm = some (r, Mm2) ∧ Rel Mx2 Mm2) (hend : ∀ Mx2 Mm2, Rel Mx2 Mm2 → JL L xs 1329 [(0, .ref 301), (1, .ref 0), (2, .ref 300), (3, .int i)] [] Mx2 Mm2) : JL L xs 597 [(0, .ref 301), (1, .ref 0), (2, .ref 300), (3, .int i)] [] Mx Mm := by
  refine l_aload_n (pc := 597) (q := 1) d_law_597 rfl rfl ?_
  refine l_aload_n (pc := 598) (q := 0) d_law_598 rfl rfl ?_
  refine l_iload_n (pc := 599) (q := 3) d_law_599 rfl rfl ?_
  refine l_iconst (pc := 600) d_law_600 k_i_1 ?_
  refine l_iadd (pc := 601) d_law_601 ?_
  refine l_ald (pc := 602) d_law_602 (h1) ?_
  refine l_aload_n (pc := 603) (q := 0) d_law_603 rfl rfl ?_
  refine l_iload_n (pc := 604) (q := 3) d_law_604 rfl rfl ?_
  refine l_iconst (pc := 605) d_law_605 k_i_2 ?_
  refine l_iadd (pc := 606) d_law_606 ?_
  refine l_ald (pc := 607) d_law_607 (h2) ?_
  obtain ⟨r, Mx2, Mm2, hFx, hFm, hR2⟩ := sim_shake (xs (i + 1).toNatClampNeg) (xs (i + 2).toNatClampNeg) _ _ hR
  refine l_callX (pc := 608) (as := [.int (xs (i + 1).toNatClampNeg), .int (xs (i + 2).toNatClampNeg)]) d_law_608 (C_ShakeHands_shake fuel (xs (i + 1).toNatClampNeg) (xs (i + 2).toNatClampNeg) _) hFx cV_Law_72 cd_ShakeHands_shake dn_ShakeHands_shake rfl rfl (by decide) (by decide) (Nat.le_of_ble_eq_true rfl) rfl (fun _ _ => rfl) ?_
  refine l_aload_n (pc := 611) (q := 2) d_law_611 rfl rfl ?_
  refine l_aload_n (pc := 612) (q := 0) d_law_612 rfl rfl ?_
  refine l_iload_n (pc := 613) (q := 3) d_law_613 rfl rfl ?_
  refine l_iconst (pc := 614) d_law_614 k_i_1 ?_
  refine l_iadd (pc := 615) d_law_615 ?_
  refine l_ald (pc := 616) d_law_616 (h1) ?_
  refine l_aload_n (pc := 617) (q := 0) d_law_617 rfl rfl ?_
  refine l_iload_n (pc := 618) (q := 3) d_law_618 rfl rfl ?_
  refine l_iconst (pc := 619) d_law_619 k_i_2 ?_
  refine l_iadd (pc := 620) d_law_620 ?_
  refine l_ald (pc := 621) d_law_621 (h2) ?_
  refine l_callM (pc := 622) (as := [.int (xs (i + 1).toNatClampNeg), .int (xs (i + 2).toNatClampNeg)]) d_law_622 (C_Model_shake fuel (xs (i + 1).toNatClampNeg) (xs (i + 2).toNatClampNeg) _) hFm cV_Law_75 cd_Model_shake dn_Model_shake rfl rfl (by decide) (by decide) (Nat.le_of_ble_eq_true rfl) rfl (fun _ _ => rfl) ?_
  refine l_eq_t (pc := 625) (tgt := 1329) d_law_625 (by decide) ?_
  exact hend _ _ hR2
set_option maxHeartbeats 4000000 in
theorem law_case_14 {L : Nat} {xs : Nat → Int32} {i : Int32} (h0 : vp_in i L) (h1 : vp_in (i + 1) L) (h2 : vp_in (i + 2) L) (h3 : vp_in (i + 3) L) (h4 : vp_in (i + 4) L) {Mx Mm : Mem} (hR : Rel Mx Mm) (hFA : ∃ r Mx2 Mm2, X_ShakeHands_fault fuel Mx = some (r, Mx2) ∧ X_Model_fault fuel Mm = some (r, Mm2) ∧ Rel Mx2 Mm2) (hend : ∀ Mx2 Mm2, Rel Mx2 Mm2 → JL L xs 1329 [(0, .ref 301), (1, .ref 0), (2, .ref 300), (3, .int i)] [] Mx2 Mm2) : JL L xs 630 [(0, .ref 301), (1, .ref 0), (2, .ref 300), (3, .int i)] [] Mx Mm := by
  refine l_aload_n (pc := 630) (q := 1) d_law_630 rfl rfl ?_
  refine l_aload_n (pc := 631) (q := 0) d_law_631 rfl rfl ?_
  refine l_iload_n (pc := 632) (q := 3) d_law_632 rfl rfl ?_
  refine l_iconst (pc := 633) d_law_633 k_i_1 ?_
  refine l_iadd (pc := 634) d_law_634 ?_
  refine l_ald (pc := 635) d_law_635 (h1) ?_
  obtain ⟨r, Mx2, Mm2, hFx, hFm, hR2⟩ := sim_feast (xs (i + 1).toNatClampNeg) _ _ hR
  refine l_callX (pc := 636) (as := [.int (xs (i + 1).toNatClampNeg)]) d_law_636 (C_ShakeHands_feast fuel (xs (i + 1).toNatClampNeg) _) hFx cV_Law_76 cd_ShakeHands_feast dn_ShakeHands_feast rfl rfl (by decide) (by decide) (Nat.le_of_ble_eq_true rfl) rfl (fun _ _ => rfl) ?_
  refine l_aload_n (pc := 639) (q := 2) d_law_639 rfl rfl ?_
  refine l_aload_n (pc := 640) (q := 0) d_law_640 rfl rfl ?_
  refine l_iload_n (pc := 641) (q := 3) d_law_641 rfl rfl ?_
  refine l_iconst (pc := 642) d_law_642 k_i_1 ?_
  refine l_iadd (pc := 643) d_law_643 ?_
  refine l_ald (pc := 644) d_law_644 (h1) ?_
  refine l_callM (pc := 645) (as := [.int (xs (i + 1).toNatClampNeg)]) d_law_645 (C_Model_feast fuel (xs (i + 1).toNatClampNeg) _) hFm cV_Law_79 cd_Model_feast dn_Model_feast rfl rfl (by decide) (by decide) (Nat.le_of_ble_eq_true rfl) rfl (fun _ _ => rfl) ?_
  refine l_eq_t (pc := 648) (tgt := 1329) d_law_648 (by decide) ?_
  exact hend _ _ hR2
set_option maxHeartbeats 4000000 in
theorem law_case_15 {L : Nat} {xs : Nat → Int32} {i : Int32} (h0 : vp_in i L) (h1 : vp_in (i + 1) L) (h2 : vp_in (i + 2) L) (h3 : vp_in (i + 3) L) (h4 : vp_in (i + 4) L) {Mx Mm : Mem} (hR : Rel Mx Mm) (hFA : ∃ r Mx2 Mm2, X_ShakeHands_fault fuel Mx = some (r, Mx2) ∧ X_Model_fault fuel Mm = some (r, Mm2) ∧ Rel Mx2 Mm2) (hend : ∀ Mx2 Mm2, Rel Mx2 Mm2 → JL L xs 1329 [(0, .ref 301), (1, .ref 0), (2, .ref 300), (3, .int i)] [] Mx2 Mm2) : JL L xs 653 [(0, .ref 301), (1, .ref 0), (2, .ref 300), (3, .int i)] [] Mx Mm := by
  refine l_aload_n (pc := 653) (q := 1) d_law_653 rfl rfl ?_
  refine l_aload_n (pc := 654) (q := 0) d_law_654 rfl rfl ?_
  refine l_iload_n (pc := 655) (q := 3) d_law_655 rfl rfl ?_
  refine l_iconst (pc := 656) d_law_656 k_i_1 ?_
  refine l_iadd (pc := 657) d_law_657 ?_
  refine l_ald (pc := 658) d_law_658 (h1) ?_
  refine l_aload_n (pc := 659) (q := 0) d_law_659 rfl rfl ?_
  refine l_iload_n (pc := 660) (q := 3) d_law_660 rfl rfl ?_
  refine l_iconst (pc := 661) d_law_661 k_i_2 ?_
  refine l_iadd (pc := 662) d_law_662 ?_
  refine l_ald (pc := 663) d_law_663 (h2) ?_
  obtain ⟨r, Mx2, Mm2, hFx, hFm, hR2⟩ := sim_after (xs (i + 1).toNatClampNeg) (xs (i + 2).toNatClampNeg) _ _ hR
  refine l_callX (pc := 664) (as := [.int (xs (i + 1).toNatClampNeg), .int (xs (i + 2).toNatClampNeg)]) d_law_664 (C_ShakeHands_after fuel (xs (i + 1).toNatClampNeg) (xs (i + 2).toNatClampNeg) _) hFx cV_Law_80 cd_ShakeHands_after dn_ShakeHands_after rfl rfl (by decide) (by decide) (Nat.le_of_ble_eq_true rfl) rfl (fun _ _ => rfl) ?_
  refine l_aload_n (pc := 667) (q := 2) d_law_667 rfl rfl ?_
  refine l_aload_n (pc := 668) (q := 0) d_law_668 rfl rfl ?_
  refine l_iload_n (pc := 669) (q := 3) d_law_669 rfl rfl ?_
  refine l_iconst (pc := 670) d_law_670 k_i_1 ?_
  refine l_iadd (pc := 671) d_law_671 ?_
  refine l_ald (pc := 672) d_law_672 (h1) ?_
  refine l_aload_n (pc := 673) (q := 0) d_law_673 rfl rfl ?_
  refine l_iload_n (pc := 674) (q := 3) d_law_674 rfl rfl ?_
  refine l_iconst (pc := 675) d_law_675 k_i_2 ?_
  refine l_iadd (pc := 676) d_law_676 ?_
  refine l_ald (pc := 677) d_law_677 (h2) ?_
  refine l_callM (pc := 678) (as := [.int (xs (i + 1).toNatClampNeg), .int (xs (i + 2).toNatClampNeg)]) d_law_678 (C_Model_after fuel (xs (i + 1).toNatClampNeg) (xs (i + 2).toNatClampNeg) _) hFm cV_Law_83 cd_Model_after dn_Model_after rfl rfl (by decide) (by decide) (Nat.le_of_ble_eq_true rfl) rfl (fun _ _ => rfl) ?_
  refine l_eq_t (pc := 681) (tgt := 1329) d_law_681 (by decide) ?_
  exact hend _ _ hR2
set_option maxHeartbeats 4000000 in
theorem law_case_16 {L : Nat} {xs : Nat → Int32} {i : Int32} (h0 : vp_in i L) (h1 : vp_in (i + 1) L) (h2 : vp_in (i + 2) L) (h3 : vp_in (i + 3) L) (h4 : vp_in (i + 4) L) {Mx Mm : Mem} (hR : Rel Mx Mm) (hFA : ∃ r Mx2 Mm2, X_ShakeHands_fault fuel Mx = some (r, Mx2) ∧ X_Model_fault fuel Mm = some (r, Mm2) ∧ Rel Mx2 Mm2) (hend : ∀ Mx2 Mm2, Rel Mx2 Mm2 → JL L xs 1329 [(0, .ref 301), (1, .ref 0), (2, .ref 300), (3, .int i)] [] Mx2 Mm2) : JL L xs 686 [(0, .ref 301), (1, .ref 0), (2, .ref 300), (3, .int i)] [] Mx Mm := by
  refine l_aload_n (pc := 686) (q := 1) d_law_686 rfl rfl ?_
  refine l_aload_n (pc := 687) (q := 0) d_law_687 rfl rfl ?_
  refine l_iload_n (pc := 688) (q := 3) d_law_688 rfl rfl ?_
  refine l_iconst (pc := 689) d_law_689 k_i_1 ?_
  refine l_iadd (pc := 690) d_law_690 ?_
  refine l_ald (pc := 691) d_law_691 (h1) ?_
  obtain ⟨r, Mx2, Mm2, hFx, hFm, hR2⟩ := sim_lost (xs (i + 1).toNatClampNeg) _ _ hR
  refine l_callX (pc := 692) (as := [.int (xs (i + 1).toNatClampNeg)]) d_law_692 (C_ShakeHands_lost fuel (xs (i + 1).toNatClampNeg) _) hFx cV_Law_84 cd_ShakeHands_lost dn_ShakeHands_lost rfl rfl (by decide) (by decide) (Nat.le_of_ble_eq_true rfl) rfl (fun _ _ => rfl) ?_
  refine l_aload_n (pc := 695) (q := 2) d_law_695 rfl rfl ?_
  refine l_aload_n (pc := 696) (q := 0) d_law_696 rfl rfl ?_
  refine l_iload_n (pc := 697) (q := 3) d_law_697 rfl rfl ?_
  refine l_iconst (pc := 698) d_law_698 k_i_1 ?_
  refine l_iadd (pc := 699) d_law_699 ?_
  refine l_ald (pc := 700) d_law_700 (h1) ?_
  refine l_callM (pc := 701) (as := [.int (xs (i + 1).toNatClampNeg)]) d_law_701 (C_Model_lost fuel (xs (i + 1).toNatClampNeg) _) hFm cV_Law_87 cd_Model_lost dn_Model_lost rfl rfl (by decide) (by decide) (Nat.le_of_ble_eq_true rfl) rfl (fun _ _ => rfl) ?_
  refine l_eq_t (pc := 704) (tgt := 1329) d_law_704 (by decide) ?_
  exact hend _ _ hR2
set_option maxHeartbeats 4000000 in
theorem law_case_17 {L : Nat} {xs : Nat → Int32} {i : Int32} (h0 : vp_in i L) (h1 : vp_in (i + 1) L) (h2 : vp_in (i + 2) L) (h3 : vp_in (i + 3) L) (h4 : vp_in (i + 4) L) {Mx Mm : Mem} (hR : Rel Mx Mm) (hFA : ∃ r Mx2 Mm2, X_ShakeHands_fault fuel Mx = some (r, Mx2) ∧ X_Model_fault fuel Mm = some (r, Mm2) ∧ Rel Mx2 Mm2) (hend : ∀ Mx2 Mm2, Rel Mx2 Mm2 → JL L xs 1329 [(0, .ref 301), (1, .ref 0), (2, .ref 300), (3, .int i)] [] Mx2 Mm2) : JL L xs 709 [(0, .ref 301), (1, .ref 0), (2, .ref 300), (3, .int i)] [] Mx Mm := by
  refine l_aload_n (pc := 709) (q := 1) d_law_709 rfl rfl ?_
  refine l_aload_n (pc := 710) (q := 0) d_law_710 rfl rfl ?_
  refine l_iload_n (pc := 711) (q := 3) d_law_711 rfl rfl ?_
  refine l_iconst (pc := 712) d_law_712 k_i_1 ?_
  refine l_iadd (pc := 713) d_law_713 ?_
  refine l_ald (pc := 714) d_law_714 (h1) ?_
  refine l_aload_n (pc := 715) (q := 0) d_law_715 rfl rfl ?_
  refine l_iload_n (pc := 716) (q := 3) d_law_716 rfl rfl ?_
  refine l_iconst (pc := 717) d_law_717 k_i_2 ?_
  refine l_iadd (pc := 718) d_law_718 ?_
  refine l_ald (pc := 719) d_law_719 (h2) ?_
  obtain ⟨r, Mx2, Mm2, hFx, hFm, hR2⟩ := sim_told (xs (i + 1).toNatClampNeg) (xs (i + 2).toNatClampNeg) _ _ hR
  refine l_callX (pc := 720) (as := [.int (xs (i + 1).toNatClampNeg), .int (xs (i + 2).toNatClampNeg)]) d_law_720 (C_ShakeHands_told fuel (xs (i + 1).toNatClampNeg) (xs (i + 2).toNatClampNeg) _) hFx cV_Law_88 cd_ShakeHands_told dn_ShakeHands_told rfl rfl (by decide) (by decide) (Nat.le_of_ble_eq_true rfl) rfl (fun _ _ => rfl) ?_
  refine l_aload_n (pc := 723) (q := 2) d_law_723 rfl rfl ?_
  refine l_aload_n (pc := 724) (q := 0) d_law_724 rfl rfl ?_
  refine l_iload_n (pc := 725) (q := 3) d_law_725 rfl rfl ?_
  refine l_iconst (pc := 726) d_law_726 k_i_1 ?_
  refine l_iadd (pc := 727) d_law_727 ?_
  refine l_ald (pc := 728) d_law_728 (h1) ?_
  refine l_aload_n (pc := 729) (q := 0) d_law_729 rfl rfl ?_
  refine l_iload_n (pc := 730) (q := 3) d_law_730 rfl rfl ?_
  refine l_iconst (pc := 731) d_law_731 k_i_2 ?_
  refine l_iadd (pc := 732) d_law_732 ?_
  refine l_ald (pc := 733) d_law_733 (h2) ?_
  refine l_callM (pc := 734) (as := [.int (xs (i + 1).toNatClampNeg), .int (xs (i + 2).toNatClampNeg)]) d_law_734 (C_Model_told fuel (xs (i + 1).toNatClampNeg) (xs (i + 2).toNatClampNeg) _) hFm cV_Law_91 cd_Model_told dn_Model_told rfl rfl (by decide) (by decide) (Nat.le_of_ble_eq_true rfl) rfl (fun _ _ => rfl) ?_
  refine l_eq_t (pc := 737) (tgt := 1329) d_law_737 (by decide) ?_
  exact hend _ _ hR2
set_option maxHeartbeats 4000000 in
theorem law_case_18 {L : Nat} {xs : Nat → Int32} {i : Int32} (h0 : vp_in i L) (h1 : vp_in (i + 1) L) (h2 : vp_in (i + 2) L) (h3 : vp_in (i + 3) L) (h4 : vp_in (i + 4) L) {Mx Mm : Mem} (hR : Rel Mx Mm) (hFA : ∃ r Mx2 Mm2, X_ShakeHands_fault fuel Mx = some (r, Mx2) ∧ X_Model_fault fuel Mm = some (r, Mm2) ∧ Rel Mx2 Mm2) (hend : ∀ Mx2 Mm2, Rel Mx2 Mm2 → JL L xs 1329 [(0, .ref 301), (1, .ref 0), (2, .ref 300), (3, .int i)] [] Mx2 Mm2) : JL L xs 742 [(0, .ref 301), (1, .ref 0), (2, .ref 300), (3, .int i)] [] Mx Mm := by
  refine l_aload_n (pc := 742) (q := 1) d_law_742 rfl rfl ?_
  refine l_aload_n (pc := 743) (q := 0) d_law_743 rfl rfl ?_
  refine l_iload_n (pc := 744) (q := 3) d_law_744 rfl rfl ?_
  refine l_iconst (pc := 745) d_law_745 k_i_1 ?_
  refine l_iadd (pc := 746) d_law_746 ?_
  refine l_ald (pc := 747) d_law_747 (h1) ?_
  refine l_aload_n (pc := 748) (q := 0) d_law_748 rfl rfl ?_
  refine l_iload_n (pc := 749) (q := 3) d_law_749 rfl rfl ?_
  refine l_iconst (pc := 750) d_law_750 k_i_2 ?_
  refine l_iadd (pc := 751) d_law_751 ?_
  refine l_ald (pc := 752) d_law_752 (h2) ?_
  refine l_aload_n (pc := 753) (q := 0) d_law_753 rfl rfl ?_
  refine l_iload_n (pc := 754) (q := 3) d_law_754 rfl rfl ?_
  refine l_iconst (pc := 755) d_law_755 k_i_3 ?_
  refine l_iadd (pc := 756) d_law_756 ?_
  refine l_ald (pc := 757) d_law_757 (h3) ?_
  refine l_aload_n (pc := 758) (q := 0) d_law_758 rfl rfl ?_
  refine l_iload_n (pc := 759) (q := 3) d_law_759 rfl rfl ?_
  refine l_iconst (pc := 760) d_law_760 k_i_4 ?_
  refine l_iadd (pc := 761) d_law_761 ?_
  refine l_ald (pc := 762) d_law_762 (h4) ?_
  obtain ⟨r, Mx2, Mm2, hFx, hFm, hR2⟩ := sim_fewest (xs (i + 1).toNatClampNeg) (xs (i + 2).toNatClampNeg) (xs (i + 3).toNatClampNeg) (xs (i + 4).toNatClampNeg) _ _ hR
  refine l_callX (pc := 763) (as := [.int (xs (i + 1).toNatClampNeg), .int (xs (i + 2).toNatClampNeg), .int (xs (i + 3).toNatClampNeg), .int (xs (i + 4).toNatClampNeg)]) d_law_763 (C_ShakeHands_fewest fuel (xs (i + 1).toNatClampNeg) (xs (i + 2).toNatClampNeg) (xs (i + 3).toNatClampNeg) (xs (i + 4).toNatClampNeg) _) hFx cV_Law_92 cd_ShakeHands_fewest dn_ShakeHands_fewest rfl rfl (by decide) (by decide) (Nat.le_of_ble_eq_true rfl) rfl (fun _ _ => rfl) ?_
  refine l_aload_n (pc := 766) (q := 2) d_law_766 rfl rfl ?_
  refine l_aload_n (pc := 767) (q := 0) d_law_767 rfl rfl ?_
  refine l_iload_n (pc := 768) (q := 3) d_law_768 rfl rfl ?_
  refine l_iconst (pc := 769) d_law_769 k_i_1 ?_
  refine l_iadd (pc := 770) d_law_770 ?_
  refine l_ald (pc := 771) d_law_771 (h1) ?_
  refine l_aload_n (pc := 772) (q := 0) d_law_772 rfl rfl ?_
  refine l_iload_n (pc := 773) (q := 3) d_law_773 rfl rfl ?_
  refine l_iconst (pc := 774) d_law_774 k_i_2 ?_
  refine l_iadd (pc := 775) d_law_775 ?_
  refine l_ald (pc := 776) d_law_776 (h2) ?_
  refine l_aload_n (pc := 777) (q := 0) d_law_777 rfl rfl ?_
  refine l_iload_n (pc := 778) (q := 3) d_law_778 rfl rfl ?_
  refine l_iconst (pc := 779) d_law_779 k_i_3 ?_
  refine l_iadd (pc := 780) d_law_780 ?_
  refine l_ald (pc := 781) d_law_781 (h3) ?_
  refine l_aload_n (pc := 782) (q := 0) d_law_782 rfl rfl ?_
  refine l_iload_n (pc := 783) (q := 3) d_law_783 rfl rfl ?_
  refine l_iconst (pc := 784) d_law_784 k_i_4 ?_
  refine l_iadd (pc := 785) d_law_785 ?_
  refine l_ald (pc := 786) d_law_786 (h4) ?_
  refine l_callM (pc := 787) (as := [.int (xs (i + 1).toNatClampNeg), .int (xs (i + 2).toNatClampNeg), .int (xs (i + 3).toNatClampNeg), .int (xs (i + 4).toNatClampNeg)]) d_law_787 (C_Model_fewest fuel (xs (i + 1).toNatClampNeg) (xs (i + 2).toNatClampNeg) (xs (i + 3).toNatClampNeg) (xs (i + 4).toNatClampNeg) _) hFm cV_Law_96 cd_Model_fewest dn_Model_fewest rfl rfl (by decide) (by decide) (Nat.le_of_ble_eq_true rfl) rfl (fun _ _ => rfl) ?_
  refine l_eq_t (pc := 790) (tgt := 1329) d_law_790 (by decide) ?_
  exact hend _ _ hR2
set_option maxHeartbeats 4000000 in
theorem law_case_19 {L : Nat} {xs : Nat → Int32} {i : Int32} (h0 : vp_in i L) (h1 : vp_in (i + 1) L) (h2 : vp_in (i + 2) L) (h3 : vp_in (i + 3) L) (h4 : vp_in (i + 4) L) {Mx Mm : Mem} (hR : Rel Mx Mm) (hFA : ∃ r Mx2 Mm2, X_ShakeHands_fault fuel Mx = some (r, Mx2) ∧ X_Model_fault fuel Mm = some (r, Mm2) ∧ Rel Mx2 Mm2) (hend : ∀ Mx2 Mm2, Rel Mx2 Mm2 → JL L xs 1329 [(0, .ref 301), (1, .ref 0), (2, .ref 300), (3, .int i)] [] Mx2 Mm2) : JL L xs 795 [(0, .ref 301), (1, .ref 0), (2, .ref 300), (3, .int i)] [] Mx Mm := by
  refine l_aload_n (pc := 795) (q := 1) d_law_795 rfl rfl ?_
  refine l_aload_n (pc := 796) (q := 0) d_law_796 rfl rfl ?_
  refine l_iload_n (pc := 797) (q := 3) d_law_797 rfl rfl ?_
  refine l_iconst (pc := 798) d_law_798 k_i_1 ?_
  refine l_iadd (pc := 799) d_law_799 ?_
  refine l_ald (pc := 800) d_law_800 (h1) ?_
  refine l_aload_n (pc := 801) (q := 0) d_law_801 rfl rfl ?_
  refine l_iload_n (pc := 802) (q := 3) d_law_802 rfl rfl ?_
  refine l_iconst (pc := 803) d_law_803 k_i_2 ?_
  refine l_iadd (pc := 804) d_law_804 ?_
  refine l_ald (pc := 805) d_law_805 (h2) ?_
  refine l_aload_n (pc := 806) (q := 0) d_law_806 rfl rfl ?_
  refine l_iload_n (pc := 807) (q := 3) d_law_807 rfl rfl ?_
  refine l_iconst (pc := 808) d_law_808 k_i_3 ?_
  refine l_iadd (pc := 809) d_law_809 ?_
  refine l_ald (pc := 810) d_law_810 (h3) ?_
  obtain ⟨r, Mx2, Mm2, hFx, hFm, hR2⟩ := sim_rounds (xs (i + 1).toNatClampNeg) (xs (i + 2).toNatClampNeg) (xs (i + 3).toNatClampNeg) _ _ hR
  refine l_callX (pc := 811) (as := [.int (xs (i + 1).toNatClampNeg), .int (xs (i + 2).toNatClampNeg), .int (xs (i + 3).toNatClampNeg)]) d_law_811 (C_ShakeHands_rounds fuel (xs (i + 1).toNatClampNeg) (xs (i + 2).toNatClampNeg) (xs (i + 3).toNatClampNeg) _) hFx cV_Law_97 cd_ShakeHands_rounds dn_ShakeHands_rounds rfl rfl (by decide) (by decide) (Nat.le_of_ble_eq_true rfl) rfl (fun _ _ => rfl) ?_
  refine l_aload_n (pc := 814) (q := 2) d_law_814 rfl rfl ?_
  refine l_aload_n (pc := 815) (q := 0) d_law_815 rfl rfl ?_
  refine l_iload_n (pc := 816) (q := 3) d_law_816 rfl rfl ?_
  refine l_iconst (pc := 817) d_law_817 k_i_1 ?_
  refine l_iadd (pc := 818) d_law_818 ?_
  refine l_ald (pc := 819) d_law_819 (h1) ?_
  refine l_aload_n (pc := 820) (q := 0) d_law_820 rfl rfl ?_
  refine l_iload_n (pc := 821) (q := 3) d_law_821 rfl rfl ?_
  refine l_iconst (pc := 822) d_law_822 k_i_2 ?_
  refine l_iadd (pc := 823) d_law_823 ?_
  refine l_ald (pc := 824) d_law_824 (h2) ?_
  refine l_aload_n (pc := 825) (q := 0) d_law_825 rfl rfl ?_
  refine l_iload_n (pc := 826) (q := 3) d_law_826 rfl rfl ?_
  refine l_iconst (pc := 827) d_law_827 k_i_3 ?_
  refine l_iadd (pc := 828) d_law_828 ?_
  refine l_ald (pc := 829) d_law_829 (h3) ?_
  refine l_callM (pc := 830) (as := [.int (xs (i + 1).toNatClampNeg), .int (xs (i + 2).toNatClampNeg), .int (xs (i + 3).toNatClampNeg)]) d_law_830 (C_Model_rounds fuel (xs (i + 1).toNatClampNeg) (xs (i + 2).toNatClampNeg) (xs (i + 3).toNatClampNeg) _) hFm cV_Law_101 cd_Model_rounds dn_Model_rounds rfl rfl (by decide) (by decide) (Nat.le_of_ble_eq_true rfl) rfl (fun _ _ => rfl) ?_
  refine l_eq_t (pc := 833) (tgt := 1329) d_law_833 (by decide) ?_
  exact hend _ _ hR2
set_option maxHeartbeats 4000000 in
theorem law_case_20 {L : Nat} {xs : Nat → Int32} {i : Int32} (h0 : vp_in i L) (h1 : vp_in (i + 1) L) (h2 : vp_in (i + 2) L) (h3 : vp_in (i + 3) L) (h4 : vp_in (i + 4) L) {Mx Mm : Mem} (hR : Rel Mx Mm) (hFA : ∃ r Mx2 Mm2, X_ShakeHands_fault fuel Mx = some (r, Mx2) ∧ X_Model_fault fuel Mm = some (r, Mm2) ∧ Rel Mx2 Mm2) (hend : ∀ Mx2 Mm2, Rel Mx2 Mm2 → JL L xs 1329 [(0, .ref 301), (1, .ref 0), (2, .ref 300), (3, .int i)] [] Mx2 Mm2) : JL L xs 838 [(0, .ref 301), (1, .ref 0), (2, .ref 300), (3, .int i)] [] Mx Mm := by
  refine l_aload_n (pc := 838) (q := 1) d_law_838 rfl rfl ?_
  refine l_aload_n (pc := 839) (q := 0) d_law_839 rfl rfl ?_
  refine l_iload_n (pc := 840) (q := 3) d_law_840 rfl rfl ?_
  refine l_iconst (pc := 841) d_law_841 k_i_1 ?_
  refine l_iadd (pc := 842) d_law_842 ?_
  refine l_ald (pc := 843) d_law_843 (h1) ?_
  obtain ⟨r, Mx2, Mm2, hFx, hFm, hR2⟩ := sim_lose (xs (i + 1).toNatClampNeg) _ _ hR
  refine l_callX (pc := 844) (as := [.int (xs (i + 1).toNatClampNeg)]) d_law_844 (C_ShakeHands_lose fuel (xs (i + 1).toNatClampNeg) _) hFx cV_Law_102 cd_ShakeHands_lose dn_ShakeHands_lose rfl rfl (by decide) (by decide) (Nat.le_of_ble_eq_true rfl) rfl (fun _ _ => rfl) ?_
  refine l_aload_n (pc := 847) (q := 2) d_law_847 rfl rfl ?_
  refine l_aload_n (pc := 848) (q := 0) d_law_848 rfl rfl ?_
  refine l_iload_n (pc := 849) (q := 3) d_law_849 rfl rfl ?_
  refine l_iconst (pc := 850) d_law_850 k_i_1 ?_
  refine l_iadd (pc := 851) d_law_851 ?_
  refine l_ald (pc := 852) d_law_852 (h1) ?_
  refine l_callM (pc := 853) (as := [.int (xs (i + 1).toNatClampNeg)]) d_law_853 (C_Model_lose fuel (xs (i + 1).toNatClampNeg) _) hFm cV_Law_105 cd_Model_lose dn_Model_lose rfl rfl (by decide) (by decide) (Nat.le_of_ble_eq_true rfl) rfl (fun _ _ => rfl) ?_
  refine l_eq_t (pc := 856) (tgt := 1329) d_law_856 (by decide) ?_
  exact hend _ _ hR2
set_option maxHeartbeats 4000000 in
theorem law_case_21 {L : Nat} {xs : Nat → Int32} {i : Int32} (h0 : vp_in i L) (h1 : vp_in (i + 1) L) (h2 : vp_in (i + 2) L) (h3 : vp_in (i + 3) L) (h4 : vp_in (i + 4) L) {Mx Mm : Mem} (hR : Rel Mx Mm) (hFA : ∃ r Mx2 Mm2, X_ShakeHands_fault fuel Mx = some (r, Mx2) ∧ X_Model_fault fuel Mm = some (r, Mm2) ∧ Rel Mx2 Mm2) (hend : ∀ Mx2 Mm2, Rel Mx2 Mm2 → JL L xs 1329 [(0, .ref 301), (1, .ref 0), (2, .ref 300), (3, .int i)] [] Mx2 Mm2) : JL L xs 861 [(0, .ref 301), (1, .ref 0), (2, .ref 300), (3, .int i)] [] Mx Mm := by
  refine l_aload_n (pc := 861) (q := 1) d_law_861 rfl rfl ?_
  refine l_aload_n (pc := 862) (q := 0) d_law_862 rfl rfl ?_
  refine l_iload_n (pc := 863) (q := 3) d_law_863 rfl rfl ?_
  refine l_iconst (pc := 864) d_law_864 k_i_1 ?_
  refine l_iadd (pc := 865) d_law_865 ?_
  refine l_ald (pc := 866) d_law_866 (h1) ?_
  obtain ⟨r, Mx2, Mm2, hFx, hFm, hR2⟩ := sim_lives (xs (i + 1).toNatClampNeg) _ _ hR
  refine l_callX (pc := 867) (as := [.int (xs (i + 1).toNatClampNeg)]) d_law_867 (C_ShakeHands_lives fuel (xs (i + 1).toNatClampNeg) _) hFx cV_Law_106 cd_ShakeHands_lives dn_ShakeHands_lives rfl rfl (by decide) (by decide) (Nat.le_of_ble_eq_true rfl) rfl (fun _ _ => rfl) ?_
  refine l_aload_n (pc := 870) (q := 2) d_law_870 rfl rfl ?_
  refine l_aload_n (pc := 871) (q := 0) d_law_871 rfl rfl ?_
  refine l_iload_n (pc := 872) (q := 3) d_law_872 rfl rfl ?_
  refine l_iconst (pc := 873) d_law_873 k_i_1 ?_
  refine l_iadd (pc := 874) d_law_874 ?_
  refine l_ald (pc := 875) d_law_875 (h1) ?_
  refine l_callM (pc := 876) (as := [.int (xs (i + 1).toNatClampNeg)]) d_law_876 (C_Model_lives fuel (xs (i + 1).toNatClampNeg) _) hFm cV_Law_109 cd_Model_lives dn_Model_lives rfl rfl (by decide) (by decide) (Nat.le_of_ble_eq_true rfl) rfl (fun _ _ => rfl) ?_
  refine l_eq_t (pc := 879) (tgt := 1329) d_law_879 (by decide) ?_
  exact hend _ _ hR2
set_option maxHeartbeats 4000000 in
theorem law_case_22 {L : Nat} {xs : Nat → Int32} {i : Int32} (h0 : vp_in i L) (h1 : vp_in (i + 1) L) (h2 : vp_in (i + 2) L) (h3 : vp_in (i + 3) L) (h4 : vp_in (i + 4) L) {Mx Mm : Mem} (hR : Rel Mx Mm) (hFA : ∃ r Mx2 Mm2, X_ShakeHands_fault fuel Mx = some (r, Mx2) ∧ X_Model_fault fuel Mm = some (r, Mm2) ∧ Rel Mx2 Mm2) (hend : ∀ Mx2 Mm2, Rel Mx2 Mm2 → JL L xs 1329 [(0, .ref 301), (1, .ref 0), (2, .ref 300), (3, .int i)] [] Mx2 Mm2) : JL L xs 884 [(0, .ref 301), (1, .ref 0), (2, .ref 300), (3, .int i)] [] Mx Mm := by
  refine l_aload_n (pc := 884) (q := 1) d_law_884 rfl rfl ?_
  refine l_aload_n (pc := 885) (q := 0) d_law_885 rfl rfl ?_
  refine l_iload_n (pc := 886) (q := 3) d_law_886 rfl rfl ?_
  refine l_iconst (pc := 887) d_law_887 k_i_1 ?_
  refine l_iadd (pc := 888) d_law_888 ?_
  refine l_ald (pc := 889) d_law_889 (h1) ?_
  obtain ⟨r, Mx2, Mm2, hFx, hFm, hR2⟩ := sim_comes (xs (i + 1).toNatClampNeg) _ _ hR
  refine l_callX (pc := 890) (as := [.int (xs (i + 1).toNatClampNeg)]) d_law_890 (C_ShakeHands_comes fuel (xs (i + 1).toNatClampNeg) _) hFx cV_Law_110 cd_ShakeHands_comes dn_ShakeHands_comes rfl rfl (by decide) (by decide) (Nat.le_of_ble_eq_true rfl) rfl (fun _ _ => rfl) ?_
  refine l_aload_n (pc := 893) (q := 2) d_law_893 rfl rfl ?_
  refine l_aload_n (pc := 894) (q := 0) d_law_894 rfl rfl ?_
  refine l_iload_n (pc := 895) (q := 3) d_law_895 rfl rfl ?_
  refine l_iconst (pc := 896) d_law_896 k_i_1 ?_
  refine l_iadd (pc := 897) d_law_897 ?_
  refine l_ald (pc := 898) d_law_898 (h1) ?_
  refine l_callM (pc := 899) (as := [.int (xs (i + 1).toNatClampNeg)]) d_law_899 (C_Model_comes fuel (xs (i + 1).toNatClampNeg) _) hFm cV_Law_113 cd_Model_comes dn_Model_comes rfl rfl (by decide) (by decide) (Nat.le_of_ble_eq_true rfl) rfl (fun _ _ => rfl) ?_
  refine l_eq_t (pc := 902) (tgt := 1329) d_law_902 (by decide) ?_
  exact hend _ _ hR2
set_option maxHeartbeats 4000000 in
theorem law_case_23 {L : Nat} {xs : Nat → Int32} {i : Int32} (h0 : vp_in i L) (h1 : vp_in (i + 1) L) (h2 : vp_in (i + 2) L) (h3 : vp_in (i + 3) L) (h4 : vp_in (i + 4) L) {Mx Mm : Mem} (hR : Rel Mx Mm) (hFA : ∃ r Mx2 Mm2, X_ShakeHands_fault fuel Mx = some (r, Mx2) ∧ X_Model_fault fuel Mm = some (r, Mm2) ∧ Rel Mx2 Mm2) (hend : ∀ Mx2 Mm2, Rel Mx2 Mm2 → JL L xs 1329 [(0, .ref 301), (1, .ref 0), (2, .ref 300), (3, .int i)] [] Mx2 Mm2) : JL L xs 907 [(0, .ref 301), (1, .ref 0), (2, .ref 300), (3, .int i)] [] Mx Mm := by
  refine l_aload_n (pc := 907) (q := 1) d_law_907 rfl rfl ?_
  refine l_aload_n (pc := 908) (q := 0) d_law_908 rfl rfl ?_
  refine l_iload_n (pc := 909) (q := 3) d_law_909 rfl rfl ?_
  refine l_iconst (pc := 910) d_law_910 k_i_1 ?_
  refine l_iadd (pc := 911) d_law_911 ?_
  refine l_ald (pc := 912) d_law_912 (h1) ?_
  obtain ⟨r, Mx2, Mm2, hFx, hFm, hR2⟩ := sim_days (xs (i + 1).toNatClampNeg) _ _ hR
  refine l_callX (pc := 913) (as := [.int (xs (i + 1).toNatClampNeg)]) d_law_913 (C_ShakeHands_days fuel (xs (i + 1).toNatClampNeg) _) hFx cV_Law_114 cd_ShakeHands_days dn_ShakeHands_days rfl rfl (by decide) (by decide) (Nat.le_of_ble_eq_true rfl) rfl (fun _ _ => rfl) ?_
  refine l_aload_n (pc := 916) (q := 2) d_law_916 rfl rfl ?_
  refine l_aload_n (pc := 917) (q := 0) d_law_917 rfl rfl ?_
  refine l_iload_n (pc := 918) (q := 3) d_law_918 rfl rfl ?_
  refine l_iconst (pc := 919) d_law_919 k_i_1 ?_
  refine l_iadd (pc := 920) d_law_920 ?_
  refine l_ald (pc := 921) d_law_921 (h1) ?_
  refine l_callM (pc := 922) (as := [.int (xs (i + 1).toNatClampNeg)]) d_law_922 (C_Model_days fuel (xs (i + 1).toNatClampNeg) _) hFm cV_Law_117 cd_Model_days dn_Model_days rfl rfl (by decide) (by decide) (Nat.le_of_ble_eq_true rfl) rfl (fun _ _ => rfl) ?_
  refine l_eq_t (pc := 925) (tgt := 1329) d_law_925 (by decide) ?_
  exact hend _ _ hR2
set_option maxHeartbeats 4000000 in
theorem law_case_24 {L : Nat} {xs : Nat → Int32} {i : Int32} (h0 : vp_in i L) (h1 : vp_in (i + 1) L) (h2 : vp_in (i + 2) L) (h3 : vp_in (i + 3) L) (h4 : vp_in (i + 4) L) {Mx Mm : Mem} (hR : Rel Mx Mm) (hFA : ∃ r Mx2 Mm2, X_ShakeHands_fault fuel Mx = some (r, Mx2) ∧ X_Model_fault fuel Mm = some (r, Mm2) ∧ Rel Mx2 Mm2) (hend : ∀ Mx2 Mm2, Rel Mx2 Mm2 → JL L xs 1329 [(0, .ref 301), (1, .ref 0), (2, .ref 300), (3, .int i)] [] Mx2 Mm2) : JL L xs 930 [(0, .ref 301), (1, .ref 0), (2, .ref 300), (3, .int i)] [] Mx Mm := by
  refine l_aload_n (pc := 930) (q := 1) d_law_930 rfl rfl ?_
  refine l_aload_n (pc := 931) (q := 0) d_law_931 rfl rfl ?_
  refine l_iload_n (pc := 932) (q := 3) d_law_932 rfl rfl ?_
  refine l_iconst (pc := 933) d_law_933 k_i_1 ?_
  refine l_iadd (pc := 934) d_law_934 ?_
  refine l_ald (pc := 935) d_law_935 (h1) ?_
  refine l_aload_n (pc := 936) (q := 0) d_law_936 rfl rfl ?_
  refine l_iload_n (pc := 937) (q := 3) d_law_937 rfl rfl ?_
  refine l_iconst (pc := 938) d_law_938 k_i_2 ?_
  refine l_iadd (pc := 939) d_law_939 ?_
  refine l_ald (pc := 940) d_law_940 (h2) ?_
  obtain ⟨r, Mx2, Mm2, hFx, hFm, hR2⟩ := sim_saw (xs (i + 1).toNatClampNeg) (xs (i + 2).toNatClampNeg) _ _ hR
  refine l_callX (pc := 941) (as := [.int (xs (i + 1).toNatClampNeg), .int (xs (i + 2).toNatClampNeg)]) d_law_941 (C_ShakeHands_saw fuel (xs (i + 1).toNatClampNeg) (xs (i + 2).toNatClampNeg) _) hFx cV_Law_118 cd_ShakeHands_saw dn_ShakeHands_saw rfl rfl (by decide) (by decide) (Nat.le_of_ble_eq_true rfl) rfl (fun _ _ => rfl) ?_
  refine l_aload_n (pc := 944) (q := 2) d_law_944 rfl rfl ?_
  refine l_aload_n (pc := 945) (q := 0) d_law_945 rfl rfl ?_
  refine l_iload_n (pc := 946) (q := 3) d_law_946 rfl rfl ?_
  refine l_iconst (pc := 947) d_law_947 k_i_1 ?_
  refine l_iadd (pc := 948) d_law_948 ?_
  refine l_ald (pc := 949) d_law_949 (h1) ?_
  refine l_aload_n (pc := 950) (q := 0) d_law_950 rfl rfl ?_
  refine l_iload_n (pc := 951) (q := 3) d_law_951 rfl rfl ?_
  refine l_iconst (pc := 952) d_law_952 k_i_2 ?_
  refine l_iadd (pc := 953) d_law_953 ?_
  refine l_ald (pc := 954) d_law_954 (h2) ?_
  refine l_callM (pc := 955) (as := [.int (xs (i + 1).toNatClampNeg), .int (xs (i + 2).toNatClampNeg)]) d_law_955 (C_Model_saw fuel (xs (i + 1).toNatClampNeg) (xs (i + 2).toNatClampNeg) _) hFm cV_Law_121 cd_Model_saw dn_Model_saw rfl rfl (by decide) (by decide) (Nat.le_of_ble_eq_true rfl) rfl (fun _ _ => rfl) ?_
  refine l_eq_t (pc := 958) (tgt := 1329) d_law_958 (by decide) ?_
  exact hend _ _ hR2
set_option maxHeartbeats 4000000 in
theorem law_case_25 {L : Nat} {xs : Nat → Int32} {i : Int32} (h0 : vp_in i L) (h1 : vp_in (i + 1) L) (h2 : vp_in (i + 2) L) (h3 : vp_in (i + 3) L) (h4 : vp_in (i + 4) L) {Mx Mm : Mem} (hR : Rel Mx Mm) (hFA : ∃ r Mx2 Mm2, X_ShakeHands_fault fuel Mx = some (r, Mx2) ∧ X_Model_fault fuel Mm = some (r, Mm2) ∧ Rel Mx2 Mm2) (hend : ∀ Mx2 Mm2, Rel Mx2 Mm2 → JL L xs 1329 [(0, .ref 301), (1, .ref 0), (2, .ref 300), (3, .int i)] [] Mx2 Mm2) : JL L xs 963 [(0, .ref 301), (1, .ref 0), (2, .ref 300), (3, .int i)] [] Mx Mm := by
  refine l_aload_n (pc := 963) (q := 1) d_law_963 rfl rfl ?_
  obtain ⟨r, Mx2, Mm2, hFx, hFm, hR2⟩ := sim_blind _ _ hR
  refine l_callX (pc := 964) (as := []) d_law_964 (C_ShakeHands_blind fuel _) hFx cV_Law_122 cd_ShakeHands_blind dn_ShakeHands_blind rfl rfl (by decide) (by decide) (Nat.le_of_ble_eq_true rfl) rfl (fun _ _ => rfl) ?_
  refine l_aload_n (pc := 967) (q := 2) d_law_967 rfl rfl ?_
  refine l_callM (pc := 968) (as := []) d_law_968 (C_Model_blind fuel _) hFm cV_Law_125 cd_Model_blind dn_Model_blind rfl rfl (by decide) (by decide) (Nat.le_of_ble_eq_true rfl) rfl (fun _ _ => rfl) ?_
  refine l_eq_t (pc := 971) (tgt := 1329) d_law_971 (by decide) ?_
  exact hend _ _ hR2
set_option maxHeartbeats 4000000 in
theorem law_case_26 {L : Nat} {xs : Nat → Int32} {i : Int32} (h0 : vp_in i L) (h1 : vp_in (i + 1) L) (h2 : vp_in (i + 2) L) (h3 : vp_in (i + 3) L) (h4 : vp_in (i + 4) L) {Mx Mm : Mem} (hR : Rel Mx Mm) (hFA : ∃ r Mx2 Mm2, X_ShakeHands_fault fuel Mx = some (r, Mx2) ∧ X_Model_fault fuel Mm = some (r, Mm2) ∧ Rel Mx2 Mm2) (hend : ∀ Mx2 Mm2, Rel Mx2 Mm2 → JL L xs 1329 [(0, .ref 301), (1, .ref 0), (2, .ref 300), (3, .int i)] [] Mx2 Mm2) : JL L xs 976 [(0, .ref 301), (1, .ref 0), (2, .ref 300), (3, .int i)] [] Mx Mm := by
  refine l_aload_n (pc := 976) (q := 1) d_law_976 rfl rfl ?_
  refine l_aload_n (pc := 977) (q := 0) d_law_977 rfl rfl ?_
  refine l_iload_n (pc := 978) (q := 3) d_law_978 rfl rfl ?_
  refine l_iconst (pc := 979) d_law_979 k_i_1 ?_
  refine l_iadd (pc := 980) d_law_980 ?_
  refine l_ald (pc := 981) d_law_981 (h1) ?_
  refine l_aload_n (pc := 982) (q := 0) d_law_982 rfl rfl ?_
  refine l_iload_n (pc := 983) (q := 3) d_law_983 rfl rfl ?_
  refine l_iconst (pc := 984) d_law_984 k_i_2 ?_
  refine l_iadd (pc := 985) d_law_985 ?_
  refine l_ald (pc := 986) d_law_986 (h2) ?_
  obtain ⟨r, Mx2, Mm2, hFx, hFm, hR2⟩ := sim_fits (xs (i + 1).toNatClampNeg) (xs (i + 2).toNatClampNeg) _ _ hR
  refine l_callX (pc := 987) (as := [.int (xs (i + 1).toNatClampNeg), .int (xs (i + 2).toNatClampNeg)]) d_law_987 (C_ShakeHands_fits fuel (xs (i + 1).toNatClampNeg) (xs (i + 2).toNatClampNeg) _) hFx cV_Law_126 cd_ShakeHands_fits dn_ShakeHands_fits rfl rfl (by decide) (by decide) (Nat.le_of_ble_eq_true rfl) rfl (fun _ _ => rfl) ?_
  refine l_aload_n (pc := 990) (q := 2) d_law_990 rfl rfl ?_
  refine l_aload_n (pc := 991) (q := 0) d_law_991 rfl rfl ?_
  refine l_iload_n (pc := 992) (q := 3) d_law_992 rfl rfl ?_
  refine l_iconst (pc := 993) d_law_993 k_i_1 ?_
  refine l_iadd (pc := 994) d_law_994 ?_
  refine l_ald (pc := 995) d_law_995 (h1) ?_
  refine l_aload_n (pc := 996) (q := 0) d_law_996 rfl rfl ?_
  refine l_iload_n (pc := 997) (q := 3) d_law_997 rfl rfl ?_
  refine l_iconst (pc := 998) d_law_998 k_i_2 ?_
  refine l_iadd (pc := 999) d_law_999 ?_
  refine l_ald (pc := 1000) d_law_1000 (h2) ?_
  refine l_callM (pc := 1001) (as := [.int (xs (i + 1).toNatClampNeg), .int (xs (i + 2).toNatClampNeg)]) d_law_1001 (C_Model_fits fuel (xs (i + 1).toNatClampNeg) (xs (i + 2).toNatClampNeg) _) hFm cV_Law_129 cd_Model_fits dn_Model_fits rfl rfl (by decide) (by decide) (Nat.le_of_ble_eq_true rfl) rfl (fun _ _ => rfl) ?_
  refine l_eq_t (pc := 1004) (tgt := 1329) d_law_1004 (by decide) ?_
  exact hend _ _ hR2
set_option maxHeartbeats 4000000 in
theorem law_case_27 {L : Nat} {xs : Nat → Int32} {i : Int32} (h0 : vp_in i L) (h1 : vp_in (i + 1) L) (h2 : vp_in (i + 2) L) (h3 : vp_in (i + 3) L) (h4 : vp_in (i + 4) L) {Mx Mm : Mem} (hR : Rel Mx Mm) (hFA : ∃ r Mx2 Mm2, X_ShakeHands_fault fuel Mx = some (r, Mx2) ∧ X_Model_fault fuel Mm = some (r, Mm2) ∧ Rel Mx2 Mm2) (hend : ∀ Mx2 Mm2, Rel Mx2 Mm2 → JL L xs 1329 [(0, .ref 301), (1, .ref 0), (2, .ref 300), (3, .int i)] [] Mx2 Mm2) : JL L xs 1009 [(0, .ref 301), (1, .ref 0), (2, .ref 300), (3, .int i)] [] Mx Mm := by
  refine l_aload_n (pc := 1009) (q := 1) d_law_1009 rfl rfl ?_
  obtain ⟨r, Mx2, Mm2, hFx, hFm, hR2⟩ := sim_least _ _ hR
  refine l_callX (pc := 1010) (as := []) d_law_1010 (C_ShakeHands_least fuel _) hFx cV_Law_130 cd_ShakeHands_least dn_ShakeHands_least rfl rfl (by decide) (by decide) (Nat.le_of_ble_eq_true rfl) rfl (fun _ _ => rfl) ?_
  refine l_aload_n (pc := 1013) (q := 2) d_law_1013 rfl rfl ?_
  refine l_callM (pc := 1014) (as := []) d_law_1014 (C_Model_least fuel _) hFm cV_Law_133 cd_Model_least dn_Model_least rfl rfl (by decide) (by decide) (Nat.le_of_ble_eq_true rfl) rfl (fun _ _ => rfl) ?_
  refine l_eq_t (pc := 1017) (tgt := 1329) d_law_1017 (by decide) ?_
  exact hend _ _ hR2
set_option maxHeartbeats 4000000 in
theorem law_case_28 {L : Nat} {xs : Nat → Int32} {i : Int32} (h0 : vp_in i L) (h1 : vp_in (i + 1) L) (h2 : vp_in (i + 2) L) (h3 : vp_in (i + 3) L) (h4 : vp_in (i + 4) L) {Mx Mm : Mem} (hR : Rel Mx Mm) (hFA : ∃ r Mx2 Mm2, X_ShakeHands_fault fuel Mx = some (r, Mx2) ∧ X_Model_fault fuel Mm = some (r, Mm2) ∧ Rel Mx2 Mm2) (hend : ∀ Mx2 Mm2, Rel Mx2 Mm2 → JL L xs 1329 [(0, .ref 301), (1, .ref 0), (2, .ref 300), (3, .int i)] [] Mx2 Mm2) : JL L xs 1022 [(0, .ref 301), (1, .ref 0), (2, .ref 300), (3, .int i)] [] Mx Mm := by
  refine l_aload_n (pc := 1022) (q := 1) d_law_1022 rfl rfl ?_
  refine l_aload_n (pc := 1023) (q := 0) d_law_1023 rfl rfl ?_
  refine l_iload_n (pc := 1024) (q := 3) d_law_1024 rfl rfl ?_
  refine l_iconst (pc := 1025) d_law_1025 k_i_1 ?_
  refine l_iadd (pc := 1026) d_law_1026 ?_
  refine l_ald (pc := 1027) d_law_1027 (h1) ?_
  refine l_aload_n (pc := 1028) (q := 0) d_law_1028 rfl rfl ?_
  refine l_iload_n (pc := 1029) (q := 3) d_law_1029 rfl rfl ?_
  refine l_iconst (pc := 1030) d_law_1030 k_i_2 ?_
  refine l_iadd (pc := 1031) d_law_1031 ?_
  refine l_ald (pc := 1032) d_law_1032 (h2) ?_
  refine l_aload_n (pc := 1033) (q := 0) d_law_1033 rfl rfl ?_
  refine l_iload_n (pc := 1034) (q := 3) d_law_1034 rfl rfl ?_
  refine l_iconst (pc := 1035) d_law_1035 k_i_3 ?_
  refine l_iadd (pc := 1036) d_law_1036 ?_
  refine l_ald (pc := 1037) d_law_1037 (h3) ?_
  obtain ⟨r, Mx2, Mm2, hFx, hFm, hR2⟩ := sim_seats (xs (i + 1).toNatClampNeg) (xs (i + 2).toNatClampNeg) (xs (i + 3).toNatClampNeg) _ _ hR
  refine l_callX (pc := 1038) (as := [.int (xs (i + 1).toNatClampNeg), .int (xs (i + 2).toNatClampNeg), .int (xs (i + 3).toNatClampNeg)]) d_law_1038 (C_ShakeHands_seats fuel (xs (i + 1).toNatClampNeg) (xs (i + 2).toNatClampNeg) (xs (i + 3).toNatClampNeg) _) hFx cV_Law_134 cd_ShakeHands_seats dn_ShakeHands_seats rfl rfl (by decide) (by decide) (Nat.le_of_ble_eq_true rfl) rfl (fun _ _ => rfl) ?_
  refine l_aload_n (pc := 1041) (q := 2) d_law_1041 rfl rfl ?_
  refine l_aload_n (pc := 1042) (q := 0) d_law_1042 rfl rfl ?_
  refine l_iload_n (pc := 1043) (q := 3) d_law_1043 rfl rfl ?_
  refine l_iconst (pc := 1044) d_law_1044 k_i_1 ?_
  refine l_iadd (pc := 1045) d_law_1045 ?_
  refine l_ald (pc := 1046) d_law_1046 (h1) ?_
  refine l_aload_n (pc := 1047) (q := 0) d_law_1047 rfl rfl ?_
  refine l_iload_n (pc := 1048) (q := 3) d_law_1048 rfl rfl ?_
  refine l_iconst (pc := 1049) d_law_1049 k_i_2 ?_
  refine l_iadd (pc := 1050) d_law_1050 ?_
  refine l_ald (pc := 1051) d_law_1051 (h2) ?_
  refine l_aload_n (pc := 1052) (q := 0) d_law_1052 rfl rfl ?_
  refine l_iload_n (pc := 1053) (q := 3) d_law_1053 rfl rfl ?_
  refine l_iconst (pc := 1054) d_law_1054 k_i_3 ?_
  refine l_iadd (pc := 1055) d_law_1055 ?_
  refine l_ald (pc := 1056) d_law_1056 (h3) ?_
  refine l_callM (pc := 1057) (as := [.int (xs (i + 1).toNatClampNeg), .int (xs (i + 2).toNatClampNeg), .int (xs (i + 3).toNatClampNeg)]) d_law_1057 (C_Model_seats fuel (xs (i + 1).toNatClampNeg) (xs (i + 2).toNatClampNeg) (xs (i + 3).toNatClampNeg) _) hFm cV_Law_137 cd_Model_seats dn_Model_seats rfl rfl (by decide) (by decide) (Nat.le_of_ble_eq_true rfl) rfl (fun _ _ => rfl) ?_
  refine l_eq_t (pc := 1060) (tgt := 1329) d_law_1060 (by decide) ?_
  exact hend _ _ hR2
set_option maxHeartbeats 4000000 in
theorem law_case_29 {L : Nat} {xs : Nat → Int32} {i : Int32} (h0 : vp_in i L) (h1 : vp_in (i + 1) L) (h2 : vp_in (i + 2) L) (h3 : vp_in (i + 3) L) (h4 : vp_in (i + 4) L) {Mx Mm : Mem} (hR : Rel Mx Mm) (hFA : ∃ r Mx2 Mm2, X_ShakeHands_fault fuel Mx = some (r, Mx2) ∧ X_Model_fault fuel Mm = some (r, Mm2) ∧ Rel Mx2 Mm2) (hend : ∀ Mx2 Mm2, Rel Mx2 Mm2 → JL L xs 1329 [(0, .ref 301), (1, .ref 0), (2, .ref 300), (3, .int i)] [] Mx2 Mm2) : JL L xs 1065 [(0, .ref 301), (1, .ref 0), (2, .ref 300), (3, .int i)] [] Mx Mm := by
  refine l_aload_n (pc := 1065) (q := 1) d_law_1065 rfl rfl ?_
  refine l_aload_n (pc := 1066) (q := 0) d_law_1066 rfl rfl ?_
  refine l_iload_n (pc := 1067) (q := 3) d_law_1067 rfl rfl ?_
  refine l_iconst (pc := 1068) d_law_1068 k_i_1 ?_
  refine l_iadd (pc := 1069) d_law_1069 ?_
  refine l_ald (pc := 1070) d_law_1070 (h1) ?_
  refine l_aload_n (pc := 1071) (q := 0) d_law_1071 rfl rfl ?_
  refine l_iload_n (pc := 1072) (q := 3) d_law_1072 rfl rfl ?_
  refine l_iconst (pc := 1073) d_law_1073 k_i_2 ?_
  refine l_iadd (pc := 1074) d_law_1074 ?_
  refine l_ald (pc := 1075) d_law_1075 (h2) ?_
  refine l_aload_n (pc := 1076) (q := 0) d_law_1076 rfl rfl ?_
  refine l_iload_n (pc := 1077) (q := 3) d_law_1077 rfl rfl ?_
  refine l_iconst (pc := 1078) d_law_1078 k_i_3 ?_
  refine l_iadd (pc := 1079) d_law_1079 ?_
  refine l_ald (pc := 1080) d_law_1080 (h3) ?_
  obtain ⟨r, Mx2, Mm2, hFx, hFm, hR2⟩ := sim_gloves (xs (i + 1).toNatClampNeg) (xs (i + 2).toNatClampNeg) (xs (i + 3).toNatClampNeg) _ _ hR
  refine l_callX (pc := 1081) (as := [.int (xs (i + 1).toNatClampNeg), .int (xs (i + 2).toNatClampNeg), .int (xs (i + 3).toNatClampNeg)]) d_law_1081 (C_ShakeHands_gloves fuel (xs (i + 1).toNatClampNeg) (xs (i + 2).toNatClampNeg) (xs (i + 3).toNatClampNeg) _) hFx cV_Law_138 cd_ShakeHands_gloves dn_ShakeHands_gloves rfl rfl (by decide) (by decide) (Nat.le_of_ble_eq_true rfl) rfl (fun _ _ => rfl) ?_
  refine l_aload_n (pc := 1084) (q := 2) d_law_1084 rfl rfl ?_
  refine l_aload_n (pc := 1085) (q := 0) d_law_1085 rfl rfl ?_
  refine l_iload_n (pc := 1086) (q := 3) d_law_1086 rfl rfl ?_
  refine l_iconst (pc := 1087) d_law_1087 k_i_1 ?_
  refine l_iadd (pc := 1088) d_law_1088 ?_
  refine l_ald (pc := 1089) d_law_1089 (h1) ?_
  refine l_aload_n (pc := 1090) (q := 0) d_law_1090 rfl rfl ?_
  refine l_iload_n (pc := 1091) (q := 3) d_law_1091 rfl rfl ?_
  refine l_iconst (pc := 1092) d_law_1092 k_i_2 ?_
  refine l_iadd (pc := 1093) d_law_1093 ?_
  refine l_ald (pc := 1094) d_law_1094 (h2) ?_
  refine l_aload_n (pc := 1095) (q := 0) d_law_1095 rfl rfl ?_
  refine l_iload_n (pc := 1096) (q := 3) d_law_1096 rfl rfl ?_
  refine l_iconst (pc := 1097) d_law_1097 k_i_3 ?_
  refine l_iadd (pc := 1098) d_law_1098 ?_
  refine l_ald (pc := 1099) d_law_1099 (h3) ?_
  refine l_callM (pc := 1100) (as := [.int (xs (i + 1).toNatClampNeg), .int (xs (i + 2).toNatClampNeg), .int (xs (i + 3).toNatClampNeg)]) d_law_1100 (C_Model_gloves fuel (xs (i + 1).toNatClampNeg) (xs (i + 2).toNatClampNeg) (xs (i + 3).toNatClampNeg) _) hFm cV_Law_141 cd_Model_gloves dn_Model_gloves rfl rfl (by decide) (by decide) (Nat.le_of_ble_eq_true rfl) rfl (fun _ _ => rfl) ?_
  refine l_eq_t (pc := 1103) (tgt := 1329) d_law_1103 (by decide) ?_
  exact hend _ _ hR2
set_option maxHeartbeats 4000000 in
theorem law_case_30 {L : Nat} {xs : Nat → Int32} {i : Int32} (h0 : vp_in i L) (h1 : vp_in (i + 1) L) (h2 : vp_in (i + 2) L) (h3 : vp_in (i + 3) L) (h4 : vp_in (i + 4) L) {Mx Mm : Mem} (hR : Rel Mx Mm) (hFA : ∃ r Mx2 Mm2, X_ShakeHands_fault fuel Mx = some (r, Mx2) ∧ X_Model_fault fuel Mm = some (r, Mm2) ∧ Rel Mx2 Mm2) (hend : ∀ Mx2 Mm2, Rel Mx2 Mm2 → JL L xs 1329 [(0, .ref 301), (1, .ref 0), (2, .ref 300), (3, .int i)] [] Mx2 Mm2) : JL L xs 1108 [(0, .ref 301), (1, .ref 0), (2, .ref 300), (3, .int i)] [] Mx Mm := by
  refine l_aload_n (pc := 1108) (q := 1) d_law_1108 rfl rfl ?_
  refine l_aload_n (pc := 1109) (q := 0) d_law_1109 rfl rfl ?_
  refine l_iload_n (pc := 1110) (q := 3) d_law_1110 rfl rfl ?_
  refine l_iconst (pc := 1111) d_law_1111 k_i_1 ?_
  refine l_iadd (pc := 1112) d_law_1112 ?_
  refine l_ald (pc := 1113) d_law_1113 (h1) ?_
  obtain ⟨r, Mx2, Mm2, hFx, hFm, hR2⟩ := sim_keep (xs (i + 1).toNatClampNeg) _ _ hR
  refine l_callX (pc := 1114) (as := [.int (xs (i + 1).toNatClampNeg)]) d_law_1114 (C_ShakeHands_keep fuel (xs (i + 1).toNatClampNeg) _) hFx cV_Law_142 cd_ShakeHands_keep dn_ShakeHands_keep rfl rfl (by decide) (by decide) (Nat.le_of_ble_eq_true rfl) rfl (fun _ _ => rfl) ?_
  refine l_aload_n (pc := 1117) (q := 2) d_law_1117 rfl rfl ?_
  refine l_aload_n (pc := 1118) (q := 0) d_law_1118 rfl rfl ?_
  refine l_iload_n (pc := 1119) (q := 3) d_law_1119 rfl rfl ?_
  refine l_iconst (pc := 1120) d_law_1120 k_i_1 ?_
  refine l_iadd (pc := 1121) d_law_1121 ?_
  refine l_ald (pc := 1122) d_law_1122 (h1) ?_
  refine l_callM (pc := 1123) (as := [.int (xs (i + 1).toNatClampNeg)]) d_law_1123 (C_Model_keep fuel (xs (i + 1).toNatClampNeg) _) hFm cV_Law_145 cd_Model_keep dn_Model_keep rfl rfl (by decide) (by decide) (Nat.le_of_ble_eq_true rfl) rfl (fun _ _ => rfl) ?_
  refine l_eq_t (pc := 1126) (tgt := 1329) d_law_1126 (by decide) ?_
  exact hend _ _ hR2
set_option maxHeartbeats 4000000 in
theorem law_case_31 {L : Nat} {xs : Nat → Int32} {i : Int32} (h0 : vp_in i L) (h1 : vp_in (i + 1) L) (h2 : vp_in (i + 2) L) (h3 : vp_in (i + 3) L) (h4 : vp_in (i + 4) L) {Mx Mm : Mem} (hR : Rel Mx Mm) (hFA : ∃ r Mx2 Mm2, X_ShakeHands_fault fuel Mx = some (r, Mx2) ∧ X_Model_fault fuel Mm = some (r, Mm2) ∧ Rel Mx2 Mm2) (hend : ∀ Mx2 Mm2, Rel Mx2 Mm2 → JL L xs 1329 [(0, .ref 301), (1, .ref 0), (2, .ref 300), (3, .int i)] [] Mx2 Mm2) : JL L xs 1131 [(0, .ref 301), (1, .ref 0), (2, .ref 300), (3, .int i)] [] Mx Mm := by
  refine l_aload_n (pc := 1131) (q := 1) d_law_1131 rfl rfl ?_
  refine l_aload_n (pc := 1132) (q := 0) d_law_1132 rfl rfl ?_
  refine l_iload_n (pc := 1133) (q := 3) d_law_1133 rfl rfl ?_
  refine l_iconst (pc := 1134) d_law_1134 k_i_1 ?_
  refine l_iadd (pc := 1135) d_law_1135 ?_
  refine l_ald (pc := 1136) d_law_1136 (h1) ?_
  obtain ⟨r, Mx2, Mm2, hFx, hFm, hR2⟩ := sim_back (xs (i + 1).toNatClampNeg) _ _ hR
  refine l_callX (pc := 1137) (as := [.int (xs (i + 1).toNatClampNeg)]) d_law_1137 (C_ShakeHands_back fuel (xs (i + 1).toNatClampNeg) _) hFx cV_Law_146 cd_ShakeHands_back dn_ShakeHands_back rfl rfl (by decide) (by decide) (Nat.le_of_ble_eq_true rfl) rfl (fun _ _ => rfl) ?_
  refine l_aload_n (pc := 1140) (q := 2) d_law_1140 rfl rfl ?_
  refine l_aload_n (pc := 1141) (q := 0) d_law_1141 rfl rfl ?_
  refine l_iload_n (pc := 1142) (q := 3) d_law_1142 rfl rfl ?_
  refine l_iconst (pc := 1143) d_law_1143 k_i_1 ?_
  refine l_iadd (pc := 1144) d_law_1144 ?_
  refine l_ald (pc := 1145) d_law_1145 (h1) ?_
  refine l_callM (pc := 1146) (as := [.int (xs (i + 1).toNatClampNeg)]) d_law_1146 (C_Model_back fuel (xs (i + 1).toNatClampNeg) _) hFm cV_Law_149 cd_Model_back dn_Model_back rfl rfl (by decide) (by decide) (Nat.le_of_ble_eq_true rfl) rfl (fun _ _ => rfl) ?_
  refine l_eq_t (pc := 1149) (tgt := 1329) d_law_1149 (by decide) ?_
  exact hend _ _ hR2
set_option maxHeartbeats 4000000 in
theorem law_case_32 {L : Nat} {xs : Nat → Int32} {i : Int32} (h0 : vp_in i L) (h1 : vp_in (i + 1) L) (h2 : vp_in (i + 2) L) (h3 : vp_in (i + 3) L) (h4 : vp_in (i + 4) L) {Mx Mm : Mem} (hR : Rel Mx Mm) (hFA : ∃ r Mx2 Mm2, X_ShakeHands_fault fuel Mx = some (r, Mx2) ∧ X_Model_fault fuel Mm = some (r, Mm2) ∧ Rel Mx2 Mm2) (hend : ∀ Mx2 Mm2, Rel Mx2 Mm2 → JL L xs 1329 [(0, .ref 301), (1, .ref 0), (2, .ref 300), (3, .int i)] [] Mx2 Mm2) : JL L xs 1154 [(0, .ref 301), (1, .ref 0), (2, .ref 300), (3, .int i)] [] Mx Mm := by
  refine l_aload_n (pc := 1154) (q := 1) d_law_1154 rfl rfl ?_
  refine l_aload_n (pc := 1155) (q := 0) d_law_1155 rfl rfl ?_
  refine l_iload_n (pc := 1156) (q := 3) d_law_1156 rfl rfl ?_
  refine l_iconst (pc := 1157) d_law_1157 k_i_1 ?_
  refine l_iadd (pc := 1158) d_law_1158 ?_
  refine l_ald (pc := 1159) d_law_1159 (h1) ?_
  refine l_aload_n (pc := 1160) (q := 0) d_law_1160 rfl rfl ?_
  refine l_iload_n (pc := 1161) (q := 3) d_law_1161 rfl rfl ?_
  refine l_iconst (pc := 1162) d_law_1162 k_i_2 ?_
  refine l_iadd (pc := 1163) d_law_1163 ?_
  refine l_ald (pc := 1164) d_law_1164 (h2) ?_
  refine l_aload_n (pc := 1165) (q := 0) d_law_1165 rfl rfl ?_
  refine l_iload_n (pc := 1166) (q := 3) d_law_1166 rfl rfl ?_
  refine l_iconst (pc := 1167) d_law_1167 k_i_3 ?_
  refine l_iadd (pc := 1168) d_law_1168 ?_
  refine l_ald (pc := 1169) d_law_1169 (h3) ?_
  obtain ⟨r, Mx2, Mm2, hFx, hFm, hR2⟩ := sim_sheet (xs (i + 1).toNatClampNeg) (xs (i + 2).toNatClampNeg) (xs (i + 3).toNatClampNeg) _ _ hR
  refine l_callX (pc := 1170) (as := [.int (xs (i + 1).toNatClampNeg), .int (xs (i + 2).toNatClampNeg), .int (xs (i + 3).toNatClampNeg)]) d_law_1170 (C_ShakeHands_sheet fuel (xs (i + 1).toNatClampNeg) (xs (i + 2).toNatClampNeg) (xs (i + 3).toNatClampNeg) _) hFx cV_Law_150 cd_ShakeHands_sheet dn_ShakeHands_sheet rfl rfl (by decide) (by decide) (Nat.le_of_ble_eq_true rfl) rfl (fun _ _ => rfl) ?_
  refine l_aload_n (pc := 1173) (q := 2) d_law_1173 rfl rfl ?_
  refine l_aload_n (pc := 1174) (q := 0) d_law_1174 rfl rfl ?_
  refine l_iload_n (pc := 1175) (q := 3) d_law_1175 rfl rfl ?_
  refine l_iconst (pc := 1176) d_law_1176 k_i_1 ?_
  refine l_iadd (pc := 1177) d_law_1177 ?_
  refine l_ald (pc := 1178) d_law_1178 (h1) ?_
  refine l_aload_n (pc := 1179) (q := 0) d_law_1179 rfl rfl ?_
  refine l_iload_n (pc := 1180) (q := 3) d_law_1180 rfl rfl ?_
  refine l_iconst (pc := 1181) d_law_1181 k_i_2 ?_
  refine l_iadd (pc := 1182) d_law_1182 ?_
  refine l_ald (pc := 1183) d_law_1183 (h2) ?_
  refine l_aload_n (pc := 1184) (q := 0) d_law_1184 rfl rfl ?_
  refine l_iload_n (pc := 1185) (q := 3) d_law_1185 rfl rfl ?_
  refine l_iconst (pc := 1186) d_law_1186 k_i_3 ?_
  refine l_iadd (pc := 1187) d_law_1187 ?_
  refine l_ald (pc := 1188) d_law_1188 (h3) ?_
  refine l_callM (pc := 1189) (as := [.int (xs (i + 1).toNatClampNeg), .int (xs (i + 2).toNatClampNeg), .int (xs (i + 3).toNatClampNeg)]) d_law_1189 (C_Model_sheet fuel (xs (i + 1).toNatClampNeg) (xs (i + 2).toNatClampNeg) (xs (i + 3).toNatClampNeg) _) hFm cV_Law_153 cd_Model_sheet dn_Model_sheet rfl rfl (by decide) (by decide) (Nat.le_of_ble_eq_true rfl) rfl (fun _ _ => rfl) ?_
  refine l_eq_t (pc := 1192) (tgt := 1329) d_law_1192 (by decide) ?_
  exact hend _ _ hR2
set_option maxHeartbeats 4000000 in
theorem law_case_33 {L : Nat} {xs : Nat → Int32} {i : Int32} (h0 : vp_in i L) (h1 : vp_in (i + 1) L) (h2 : vp_in (i + 2) L) (h3 : vp_in (i + 3) L) (h4 : vp_in (i + 4) L) {Mx Mm : Mem} (hR : Rel Mx Mm) (hFA : ∃ r Mx2 Mm2, X_ShakeHands_fault fuel Mx = some (r, Mx2) ∧ X_Model_fault fuel Mm = some (r, Mm2) ∧ Rel Mx2 Mm2) (hend : ∀ Mx2 Mm2, Rel Mx2 Mm2 → JL L xs 1329 [(0, .ref 301), (1, .ref 0), (2, .ref 300), (3, .int i)] [] Mx2 Mm2) : JL L xs 1197 [(0, .ref 301), (1, .ref 0), (2, .ref 300), (3, .int i)] [] Mx Mm := by
  refine l_aload_n (pc := 1197) (q := 1) d_law_1197 rfl rfl ?_
  refine l_aload_n (pc := 1198) (q := 0) d_law_1198 rfl rfl ?_
  refine l_iload_n (pc := 1199) (q := 3) d_law_1199 rfl rfl ?_
  refine l_iconst (pc := 1200) d_law_1200 k_i_1 ?_
  refine l_iadd (pc := 1201) d_law_1201 ?_
  refine l_ald (pc := 1202) d_law_1202 (h1) ?_
  refine l_aload_n (pc := 1203) (q := 0) d_law_1203 rfl rfl ?_
  refine l_iload_n (pc := 1204) (q := 3) d_law_1204 rfl rfl ?_
  refine l_iconst (pc := 1205) d_law_1205 k_i_2 ?_
  refine l_iadd (pc := 1206) d_law_1206 ?_
  refine l_ald (pc := 1207) d_law_1207 (h2) ?_
  refine l_aload_n (pc := 1208) (q := 0) d_law_1208 rfl rfl ?_
  refine l_iload_n (pc := 1209) (q := 3) d_law_1209 rfl rfl ?_
  refine l_iconst (pc := 1210) d_law_1210 k_i_3 ?_
  refine l_iadd (pc := 1211) d_law_1211 ?_
  refine l_ald (pc := 1212) d_law_1212 (h3) ?_
  obtain ⟨r, Mx2, Mm2, hFx, hFm, hR2⟩ := sim_lay (xs (i + 1).toNatClampNeg) (xs (i + 2).toNatClampNeg) (xs (i + 3).toNatClampNeg) _ _ hR
  refine l_callX (pc := 1213) (as := [.int (xs (i + 1).toNatClampNeg), .int (xs (i + 2).toNatClampNeg), .int (xs (i + 3).toNatClampNeg)]) d_law_1213 (C_ShakeHands_lay fuel (xs (i + 1).toNatClampNeg) (xs (i + 2).toNatClampNeg) (xs (i + 3).toNatClampNeg) _) hFx cV_Law_154 cd_ShakeHands_lay dn_ShakeHands_lay rfl rfl (by decide) (by decide) (Nat.le_of_ble_eq_true rfl) rfl (fun _ _ => rfl) ?_
  refine l_aload_n (pc := 1216) (q := 2) d_law_1216 rfl rfl ?_
  refine l_aload_n (pc := 1217) (q := 0) d_law_1217 rfl rfl ?_
  refine l_iload_n (pc := 1218) (q := 3) d_law_1218 rfl rfl ?_
  refine l_iconst (pc := 1219) d_law_1219 k_i_1 ?_
  refine l_iadd (pc := 1220) d_law_1220 ?_
  refine l_ald (pc := 1221) d_law_1221 (h1) ?_
  refine l_aload_n (pc := 1222) (q := 0) d_law_1222 rfl rfl ?_
  refine l_iload_n (pc := 1223) (q := 3) d_law_1223 rfl rfl ?_
  refine l_iconst (pc := 1224) d_law_1224 k_i_2 ?_
  refine l_iadd (pc := 1225) d_law_1225 ?_
  refine l_ald (pc := 1226) d_law_1226 (h2) ?_
  refine l_aload_n (pc := 1227) (q := 0) d_law_1227 rfl rfl ?_
  refine l_iload_n (pc := 1228) (q := 3) d_law_1228 rfl rfl ?_
  refine l_iconst (pc := 1229) d_law_1229 k_i_3 ?_
  refine l_iadd (pc := 1230) d_law_1230 ?_
  refine l_ald (pc := 1231) d_law_1231 (h3) ?_
  refine l_callM (pc := 1232) (as := [.int (xs (i + 1).toNatClampNeg), .int (xs (i + 2).toNatClampNeg), .int (xs (i + 3).toNatClampNeg)]) d_law_1232 (C_Model_lay fuel (xs (i + 1).toNatClampNeg) (xs (i + 2).toNatClampNeg) (xs (i + 3).toNatClampNeg) _) hFm cV_Law_157 cd_Model_lay dn_Model_lay rfl rfl (by decide) (by decide) (Nat.le_of_ble_eq_true rfl) rfl (fun _ _ => rfl) ?_
  refine l_eq_t (pc := 1235) (tgt := 1329) d_law_1235 (by decide) ?_
  exact hend _ _ hR2
set_option maxHeartbeats 4000000 in
theorem law_case_34 {L : Nat} {xs : Nat → Int32} {i : Int32} (h0 : vp_in i L) (h1 : vp_in (i + 1) L) (h2 : vp_in (i + 2) L) (h3 : vp_in (i + 3) L) (h4 : vp_in (i + 4) L) {Mx Mm : Mem} (hR : Rel Mx Mm) (hFA : ∃ r Mx2 Mm2, X_ShakeHands_fault fuel Mx = some (r, Mx2) ∧ X_Model_fault fuel Mm = some (r, Mm2) ∧ Rel Mx2 Mm2) (hend : ∀ Mx2 Mm2, Rel Mx2 Mm2 → JL L xs 1329 [(0, .ref 301), (1, .ref 0), (2, .ref 300), (3, .int i)] [] Mx2 Mm2) : JL L xs 1240 [(0, .ref 301), (1, .ref 0), (2, .ref 300), (3, .int i)] [] Mx Mm := by
  refine l_aload_n (pc := 1240) (q := 1) d_law_1240 rfl rfl ?_
  refine l_aload_n (pc := 1241) (q := 0) d_law_1241 rfl rfl ?_
  refine l_iload_n (pc := 1242) (q := 3) d_law_1242 rfl rfl ?_
  refine l_iconst (pc := 1243) d_law_1243 k_i_1 ?_
  refine l_iadd (pc := 1244) d_law_1244 ?_
  refine l_ald (pc := 1245) d_law_1245 (h1) ?_
  refine l_aload_n (pc := 1246) (q := 0) d_law_1246 rfl rfl ?_
  refine l_iload_n (pc := 1247) (q := 3) d_law_1247 rfl rfl ?_
  refine l_iconst (pc := 1248) d_law_1248 k_i_2 ?_
  refine l_iadd (pc := 1249) d_law_1249 ?_
  refine l_ald (pc := 1250) d_law_1250 (h2) ?_
  refine l_aload_n (pc := 1251) (q := 0) d_law_1251 rfl rfl ?_
  refine l_iload_n (pc := 1252) (q := 3) d_law_1252 rfl rfl ?_
  refine l_iconst (pc := 1253) d_law_1253 k_i_3 ?_
  refine l_iadd (pc := 1254) d_law_1254 ?_
  refine l_ald (pc := 1255) d_law_1255 (h3) ?_
  refine l_aload_n (pc := 1256) (q := 0) d_law_1256 rfl rfl ?_
  refine l_iload_n (pc := 1257) (q := 3) d_law_1257 rfl rfl ?_
  refine l_iconst (pc := 1258) d_law_1258 k_i_4 ?_
  refine l_iadd (pc := 1259) d_law_1259 ?_
  refine l_ald (pc := 1260) d_law_1260 (h4) ?_
  obtain ⟨r, Mx2, Mm2, hFx, hFm, hR2⟩ := sim_read (xs (i + 1).toNatClampNeg) (xs (i + 2).toNatClampNeg) (xs (i + 3).toNatClampNeg) (xs (i + 4).toNatClampNeg) _ _ hR
  refine l_callX (pc := 1261) (as := [.int (xs (i + 1).toNatClampNeg), .int (xs (i + 2).toNatClampNeg), .int (xs (i + 3).toNatClampNeg), .int (xs (i + 4).toNatClampNeg)]) d_law_1261 (C_ShakeHands_read fuel (xs (i + 1).toNatClampNeg) (xs (i + 2).toNatClampNeg) (xs (i + 3).toNatClampNeg) (xs (i + 4).toNatClampNeg) _) hFx cV_Law_158 cd_ShakeHands_read dn_ShakeHands_read rfl rfl (by decide) (by decide) (Nat.le_of_ble_eq_true rfl) rfl (fun _ _ => rfl) ?_
  refine l_aload_n (pc := 1264) (q := 2) d_law_1264 rfl rfl ?_
  refine l_aload_n (pc := 1265) (q := 0) d_law_1265 rfl rfl ?_
  refine l_iload_n (pc := 1266) (q := 3) d_law_1266 rfl rfl ?_
  refine l_iconst (pc := 1267) d_law_1267 k_i_1 ?_
  refine l_iadd (pc := 1268) d_law_1268 ?_
  refine l_ald (pc := 1269) d_law_1269 (h1) ?_
  refine l_aload_n (pc := 1270) (q := 0) d_law_1270 rfl rfl ?_
  refine l_iload_n (pc := 1271) (q := 3) d_law_1271 rfl rfl ?_
  refine l_iconst (pc := 1272) d_law_1272 k_i_2 ?_
  refine l_iadd (pc := 1273) d_law_1273 ?_
  refine l_ald (pc := 1274) d_law_1274 (h2) ?_
  refine l_aload_n (pc := 1275) (q := 0) d_law_1275 rfl rfl ?_
  refine l_iload_n (pc := 1276) (q := 3) d_law_1276 rfl rfl ?_
  refine l_iconst (pc := 1277) d_law_1277 k_i_3 ?_
  refine l_iadd (pc := 1278) d_law_1278 ?_
  refine l_ald (pc := 1279) d_law_1279 (h3) ?_
  refine l_aload_n (pc := 1280) (q := 0) d_law_1280 rfl rfl ?_
  refine l_iload_n (pc := 1281) (q := 3) d_law_1281 rfl rfl ?_
  refine l_iconst (pc := 1282) d_law_1282 k_i_4 ?_
  refine l_iadd (pc := 1283) d_law_1283 ?_
  refine l_ald (pc := 1284) d_law_1284 (h4) ?_
  refine l_callM (pc := 1285) (as := [.int (xs (i + 1).toNatClampNeg), .int (xs (i + 2).toNatClampNeg), .int (xs (i + 3).toNatClampNeg), .int (xs (i + 4).toNatClampNeg)]) d_law_1285 (C_Model_read fuel (xs (i + 1).toNatClampNeg) (xs (i + 2).toNatClampNeg) (xs (i + 3).toNatClampNeg) (xs (i + 4).toNatClampNeg) _) hFm cV_Law_161 cd_Model_read dn_Model_read rfl rfl (by decide) (by decide) (Nat.le_of_ble_eq_true rfl) rfl (fun _ _ => rfl) ?_
  refine l_eq_t (pc := 1288) (tgt := 1329) d_law_1288 (by decide) ?_
  exact hend _ _ hR2
set_option maxHeartbeats 4000000 in
theorem law_case_35 {L : Nat} {xs : Nat → Int32} {i : Int32} (h0 : vp_in i L) (h1 : vp_in (i + 1) L) (h2 : vp_in (i + 2) L) (h3 : vp_in (i + 3) L) (h4 : vp_in (i + 4) L) {Mx Mm : Mem} (hR : Rel Mx Mm) (hFA : ∃ r Mx2 Mm2, X_ShakeHands_fault fuel Mx = some (r, Mx2) ∧ X_Model_fault fuel Mm = some (r, Mm2) ∧ Rel Mx2 Mm2) (hend : ∀ Mx2 Mm2, Rel Mx2 Mm2 → JL L xs 1329 [(0, .ref 301), (1, .ref 0), (2, .ref 300), (3, .int i)] [] Mx2 Mm2) : JL L xs 1293 [(0, .ref 301), (1, .ref 0), (2, .ref 300), (3, .int i)] [] Mx Mm := by
  refine l_aload_n (pc := 1293) (q := 1) d_law_1293 rfl rfl ?_
  obtain ⟨r, Mx2, Mm2, hFx, hFm, hR2⟩ := sim_torn _ _ hR
  refine l_callX (pc := 1294) (as := []) d_law_1294 (C_ShakeHands_torn fuel _) hFx cV_Law_162 cd_ShakeHands_torn dn_ShakeHands_torn rfl rfl (by decide) (by decide) (Nat.le_of_ble_eq_true rfl) rfl (fun _ _ => rfl) ?_
  refine l_aload_n (pc := 1297) (q := 2) d_law_1297 rfl rfl ?_
  refine l_callM (pc := 1298) (as := []) d_law_1298 (C_Model_torn fuel _) hFm cV_Law_165 cd_Model_torn dn_Model_torn rfl rfl (by decide) (by decide) (Nat.le_of_ble_eq_true rfl) rfl (fun _ _ => rfl) ?_
  refine l_eq_t (pc := 1301) (tgt := 1329) d_law_1301 (by decide) ?_
  exact hend _ _ hR2
set_option maxHeartbeats 4000000 in
theorem law_case_36 {L : Nat} {xs : Nat → Int32} {i : Int32} (h0 : vp_in i L) (h1 : vp_in (i + 1) L) (h2 : vp_in (i + 2) L) (h3 : vp_in (i + 3) L) (h4 : vp_in (i + 4) L) {Mx Mm : Mem} (hR : Rel Mx Mm) (hFA : ∃ r Mx2 Mm2, X_ShakeHands_fault fuel Mx = some (r, Mx2) ∧ X_Model_fault fuel Mm = some (r, Mm2) ∧ Rel Mx2 Mm2) (hend : ∀ Mx2 Mm2, Rel Mx2 Mm2 → JL L xs 1329 [(0, .ref 301), (1, .ref 0), (2, .ref 300), (3, .int i)] [] Mx2 Mm2) : JL L xs 1306 [(0, .ref 301), (1, .ref 0), (2, .ref 300), (3, .int i)] [] Mx Mm := by
  refine l_aload_n (pc := 1306) (q := 1) d_law_1306 rfl rfl ?_
  refine l_aload_n (pc := 1307) (q := 0) d_law_1307 rfl rfl ?_
  refine l_iload_n (pc := 1308) (q := 3) d_law_1308 rfl rfl ?_
  refine l_iconst (pc := 1309) d_law_1309 k_i_1 ?_
  refine l_iadd (pc := 1310) d_law_1310 ?_
  refine l_ald (pc := 1311) d_law_1311 (h1) ?_
  obtain ⟨r, Mx2, Mm2, hFx, hFm, hR2⟩ := sim_count (xs (i + 1).toNatClampNeg) _ _ hR
  refine l_callX (pc := 1312) (as := [.int (xs (i + 1).toNatClampNeg)]) d_law_1312 (C_ShakeHands_count fuel (xs (i + 1).toNatClampNeg) _) hFx cV_Law_166 cd_ShakeHands_count dn_ShakeHands_count rfl rfl (by decide) (by decide) (Nat.le_of_ble_eq_true rfl) rfl (fun _ _ => rfl) ?_
  refine l_aload_n (pc := 1315) (q := 2) d_law_1315 rfl rfl ?_
  refine l_aload_n (pc := 1316) (q := 0) d_law_1316 rfl rfl ?_
  refine l_iload_n (pc := 1317) (q := 3) d_law_1317 rfl rfl ?_
  refine l_iconst (pc := 1318) d_law_1318 k_i_1 ?_
  refine l_iadd (pc := 1319) d_law_1319 ?_
  refine l_ald (pc := 1320) d_law_1320 (h1) ?_
  refine l_callM (pc := 1321) (as := [.int (xs (i + 1).toNatClampNeg)]) d_law_1321 (C_Model_count fuel (xs (i + 1).toNatClampNeg) _) hFm cV_Law_169 cd_Model_count dn_Model_count rfl rfl (by decide) (by decide) (Nat.le_of_ble_eq_true rfl) rfl (fun _ _ => rfl) ?_
  refine l_eq_t (pc := 1324) (tgt := 1329) d_law_1324 (by decide) ?_
  exact hend _ _ hR2
