/-! THE LAW: its body over the memories of class and reference (ids: 0 the class's object, 300 the reference's, 301 the script) -/
theorem cl_Law_13 : Cond.constantLong "ShakeHandsLaw" 13 4294967295 ∈ tbl := tb_7 17 (by decide +kernel) rfl
def adL (base b : Nat) (k : Nat) : Nat := if k = 0 then base else if k = 300 then base + 50 else b
def Ax (base : Nat) : Nat → Prop := fun q => base ≤ q ∧ q < base + 50
def Am (base : Nat) : Nat → Prop := fun q => base + 50 ≤ q ∧ q < base + 76
def HL (p : Program) (s : State) (m : MethodId) (args : Array Value) (meth : Method) (c : Code) (D : va_G) (stt : Nat → Nat) (dA : Nat → ClassId) (b L : Nat) (xs : Nat → Int32) : Prop :=
  p.tables.exec = Jvm.exec ∧ c.code = code ∧ meth.sig.returnType = ret ∧ c.maxLocals = 4 ∧ s.vm.findClass R_law = some m.cls ∧ (∀ w ∈ tbl, w.before args s = true) ∧ meth.locks = false ∧ args = #[Value.ref b] ∧ va_X b L xs s s.heap ∧ b < s.heap.size ∧ Cx D (adB s.heap.size stt) dA (fun q => s.heap.size ≤ q) s s.heap
def JL (L : Nat) (xs : Nat → Int32) (pc : Nat) (lv : List (Nat × Value)) (st : List Value) (Mx Mm : Mem) : Prop :=
  ∀ (p : Program) (l : Launch) (e : Env) (s : State) (m : MethodId) (args : Array Value) (below : List Frame) (meth : Method) (c : Code) (D : va_G) (stt : Nat → Nat) (dA : Nat → ClassId) (b : Nat), HL p s m args meth c D stt dA b L xs →
    ∀ (H : Heap) (locs : List Loc) (ls : Array Slot), Wd D (adB s.heap.size stt) dA (Ax s.heap.size) SHx Mx H → Wd D (adB (s.heap.size + 50) stt) dA (Am s.heap.size) SHm Mm H → va_S (fun q => s.heap.size ≤ q) s.heap H locs → lv_has ls 4 (lv.map (rvp (adL s.heap.size b))) →
      W p l e room_1 s m args below meth c H locs 76 4853 (lw_Z below #[Value.ref b] s) (F0 m pc ls (st.map (rv (adL s.heap.size b))))
theorem l_iadd {L : Nat} {xs : Nat → Int32} {pc : Nat} {lv : List (Nat × Value)} {st : List Value} {Mx Mm : Mem} {x y : Int32} (hd : decode code pc = .ok (.iadd, 1)) (K : JL L xs (pc + 1) lv (.int (x + y) :: st) Mx Mm) : JL L xs pc lv (.int y :: .int x :: st) Mx Mm := by
  intro p l e s m args below meth c D stt dA b hp H locs ls hWx hWm hS hl
  obtain ⟨hx, hb, hr, hml, hown, hts, hlk, hargs, hX, hbl, hC⟩ := id hp
  exact lv_iadd hx hb hd (K p l e s m args below meth c D stt dA b hp H locs ls hWx hWm hS hl)
theorem l_isub {L : Nat} {xs : Nat → Int32} {pc : Nat} {lv : List (Nat × Value)} {st : List Value} {Mx Mm : Mem} {x y : Int32} (hd : decode code pc = .ok (.isub, 1)) (K : JL L xs (pc + 1) lv (.int (x - y) :: st) Mx Mm) : JL L xs pc lv (.int y :: .int x :: st) Mx Mm := by
  intro p l e s m args below meth c D stt dA b hp H locs ls hWx hWm hS hl
  obtain ⟨hx, hb, hr, hml, hown, hts, hlk, hargs, hX, hbl, hC⟩ := id hp
  exact lv_isub hx hb hd (K p l e s m args below meth c D stt dA b hp H locs ls hWx hWm hS hl)
theorem l_iand {L : Nat} {xs : Nat → Int32} {pc : Nat} {lv : List (Nat × Value)} {st : List Value} {Mx Mm : Mem} {x y : Int32} (hd : decode code pc = .ok (.iand, 1)) (K : JL L xs (pc + 1) lv (.int (x &&& y) :: st) Mx Mm) : JL L xs pc lv (.int y :: .int x :: st) Mx Mm := by
  intro p l e s m args below meth c D stt dA b hp H locs ls hWx hWm hS hl
  obtain ⟨hx, hb, hr, hml, hown, hts, hlk, hargs, hX, hbl, hC⟩ := id hp
  exact lv_iand hx hb hd (K p l e s m args below meth c D stt dA b hp H locs ls hWx hWm hS hl)
theorem l_land {L : Nat} {xs : Nat → Int32} {pc : Nat} {lv : List (Nat × Value)} {st : List Value} {Mx Mm : Mem} {x y : Int64} (hd : decode code pc = .ok (.land, 1)) (K : JL L xs (pc + 1) lv (.long (x &&& y) :: st) Mx Mm) : JL L xs pc lv (.long y :: .long x :: st) Mx Mm := by
  intro p l e s m args below meth c D stt dA b hp H locs ls hWx hWm hS hl
  obtain ⟨hx, hb, hr, hml, hown, hts, hlk, hargs, hX, hbl, hC⟩ := id hp
  exact lv_land hx hb hd (K p l e s m args below meth c D stt dA b hp H locs ls hWx hWm hS hl)
theorem l_lor {L : Nat} {xs : Nat → Int32} {pc : Nat} {lv : List (Nat × Value)} {st : List Value} {Mx Mm : Mem} {x y : Int64} (hd : decode code pc = .ok (.lor, 1)) (K : JL L xs (pc + 1) lv (.long (x ||| y) :: st) Mx Mm) : JL L xs pc lv (.long y :: .long x :: st) Mx Mm := by
  intro p l e s m args below meth c D stt dA b hp H locs ls hWx hWm hS hl
  obtain ⟨hx, hb, hr, hml, hown, hts, hlk, hargs, hX, hbl, hC⟩ := id hp
  exact lv_lor hx hb hd (K p l e s m args below meth c D stt dA b hp H locs ls hWx hWm hS hl)
theorem l_lshl {L : Nat} {xs : Nat → Int32} {pc : Nat} {lv : List (Nat × Value)} {st : List Value} {Mx Mm : Mem} {x : Int64} {y : Int32} (hd : decode code pc = .ok (.lshl, 1)) (K : JL L xs (pc + 1) lv (.long (x <<< (y.toInt64 &&& 63)) :: st) Mx Mm) : JL L xs pc lv (.int y :: .long x :: st) Mx Mm := by
  intro p l e s m args below meth c D stt dA b hp H locs ls hWx hWm hS hl
  obtain ⟨hx, hb, hr, hml, hown, hts, hlk, hargs, hX, hbl, hC⟩ := id hp
  exact lv_lshl hx hb hd rfl (K p l e s m args below meth c D stt dA b hp H locs ls hWx hWm hS hl)
theorem l_i2l {L : Nat} {xs : Nat → Int32} {pc : Nat} {lv : List (Nat × Value)} {st : List Value} {Mx Mm : Mem} {x : Int32} (hd : decode code pc = .ok (.i2l, 1)) (K : JL L xs (pc + 1) lv (.long x.toInt64 :: st) Mx Mm) : JL L xs pc lv (.int x :: st) Mx Mm := by
  intro p l e s m args below meth c D stt dA b hp H locs ls hWx hWm hS hl
  obtain ⟨hx, hb, hr, hml, hown, hts, hlk, hargs, hX, hbl, hC⟩ := id hp
  exact lv_i2l hx hb hd rfl (K p l e s m args below meth c D stt dA b hp H locs ls hWx hWm hS hl)
theorem l_pop {L : Nat} {xs : Nat → Int32} {pc : Nat} {lv : List (Nat × Value)} {st : List Value} {Mx Mm : Mem} {v : Int32} (hd : decode code pc = .ok (.pop, 1)) (K : JL L xs (pc + 1) lv st Mx Mm) : JL L xs pc lv (.int v :: st) Mx Mm := by
  intro p l e s m args below meth c D stt dA b hp H locs ls hWx hWm hS hl
  obtain ⟨hx, hb, hr, hml, hown, hts, hlk, hargs, hX, hbl, hC⟩ := id hp
  exact lv_pop hx hb hd rfl (K p l e s m args below meth c D stt dA b hp H locs ls hWx hWm hS hl)
theorem l_iconst {L : Nat} {xs : Nat → Int32} {pc : Nat} {lv : List (Nat × Value)} {st : List Value} {Mx Mm : Mem} {i : Int} {v : Int32} (hd : decode code pc = .ok (.iconst i, 1)) (hv : Int32.ofInt i = v) (K : JL L xs (pc + 1) lv (.int v :: st) Mx Mm) : JL L xs pc lv st Mx Mm := by
  intro p l e s m args below meth c D stt dA b hp H locs ls hWx hWm hS hl
  obtain ⟨hx, hb, hr, hml, hown, hts, hlk, hargs, hX, hbl, hC⟩ := id hp
  exact lv_iconst hx hb hd hv (K p l e s m args below meth c D stt dA b hp H locs ls hWx hWm hS hl)
theorem l_bipush {L : Nat} {xs : Nat → Int32} {pc : Nat} {lv : List (Nat × Value)} {st : List Value} {Mx Mm : Mem} {i : Int} {v : Int32} (hd : decode code pc = .ok (.bipush i, 2)) (hv : (Int8.ofInt i).toInt32 = v) (K : JL L xs (pc + 2) lv (.int v :: st) Mx Mm) : JL L xs pc lv st Mx Mm := by
  intro p l e s m args below meth c D stt dA b hp H locs ls hWx hWm hS hl
  obtain ⟨hx, hb, hr, hml, hown, hts, hlk, hargs, hX, hbl, hC⟩ := id hp
  exact lv_bipush hx hb hd hv (K p l e s m args below meth c D stt dA b hp H locs ls hWx hWm hS hl)
theorem l_ldc2 {L : Nat} {xs : Nat → Int32} {pc : Nat} {lv : List (Nat × Value)} {st : List Value} {Mx Mm : Mem} {i : Nat} {v : Int64} (hd : decode code pc = .ok (.ldc2_w i, 3)) (hw : Cond.constantLong R_law i v ∈ tbl) (K : JL L xs (pc + 3) lv (.long v :: st) Mx Mm) : JL L xs pc lv st Mx Mm := by
  intro p l e s m args below meth c D stt dA b hp H locs ls hWx hWm hS hl
  obtain ⟨hx, hb, hr, hml, hown, hts, hlk, hargs, hX, hbl, hC⟩ := id hp
  exact lv_ldc2 hx hb hown (hts _ hw) hd (K p l e s m args below meth c D stt dA b hp H locs ls hWx hWm hS hl)
theorem l_iload_n {L : Nat} {xs : Nat → Int32} {pc : Nat} {lv : List (Nat × Value)} {st : List Value} {Mx Mm : Mem} {k : Fin 4} {i q : Nat} {x : Int32} (hd : decode code pc = .ok (.iload_n k, 1)) (hi : (k : Nat) = i) (hq : lv[q]? = some (i, .int x)) (K : JL L xs (pc + 1) lv (.int x :: st) Mx Mm) : JL L xs pc lv st Mx Mm := by
  intro p l e s m args below meth c D stt dA b hp H locs ls hWx hWm hS hl
  obtain ⟨hx, hb, hr, hml, hown, hts, hlk, hargs, hX, hbl, hC⟩ := id hp
  exact lv_iload_n hx hb hd hi (lv_at hl q (lvp_get hq)) (K p l e s m args below meth c D stt dA b hp H locs ls hWx hWm hS hl)
theorem l_aload_n {L : Nat} {xs : Nat → Int32} {pc : Nat} {lv : List (Nat × Value)} {st : List Value} {Mx Mm : Mem} {k : Fin 4} {i q : Nat} {x : Nat} (hd : decode code pc = .ok (.aload_n k, 1)) (hi : (k : Nat) = i) (hq : lv[q]? = some (i, .ref x)) (K : JL L xs (pc + 1) lv (.ref x :: st) Mx Mm) : JL L xs pc lv st Mx Mm := by
  intro p l e s m args below meth c D stt dA b hp H locs ls hWx hWm hS hl
  obtain ⟨hx, hb, hr, hml, hown, hts, hlk, hargs, hX, hbl, hC⟩ := id hp
  exact lv_aload_n hx hb hd hi (lv_at hl q (lvp_get hq)) (K p l e s m args below meth c D stt dA b hp H locs ls hWx hWm hS hl)
theorem l_istore_n {L : Nat} {xs : Nat → Int32} {pc : Nat} {lv : List (Nat × Value)} {st : List Value} {Mx Mm : Mem} {k : Fin 4} {i : Nat} {x : Int32} {lv' : List (Nat × Value)} (hd : decode code pc = .ok (.istore_n k, 1)) (hi : (k : Nat) = i) (hn : i < 4) (h : (i, Value.int x) :: lv.filter (fun q => !(q.1 == i) && !(q.1 + 1 == i && q.2.category == 2)) = lv') (K : JL L xs (pc + 1) lv' st Mx Mm) : JL L xs pc lv (.int x :: st) Mx Mm := by
  intro p l e s m args below meth c D stt dA b hp H locs ls hWx hWm hS hl
  obtain ⟨hx, hb, hr, hml, hown, hts, hlk, hargs, hX, hbl, hC⟩ := id hp
  exact lv_istore_n hx hb hd hi hl hn (lvp_filter h) (fun ls2 hl2 => K p l e s m args below meth c D stt dA b hp H locs ls2 hWx hWm hS hl2)
theorem l_iinc {L : Nat} {xs : Nat → Int32} {pc : Nat} {lv : List (Nat × Value)} {st : List Value} {Mx Mm : Mem} {i q : Nat} {a : Int} {x v : Int32} {lv' : List (Nat × Value)} (hd : decode code pc = .ok (.iinc i a, 3)) (hq : lv[q]? = some (i, .int x)) (hv : x + Int32.ofInt a = v) (hn : i < 4) (h : (i, Value.int v) :: lv.filter (fun q => !(q.1 == i) && !(q.1 + 1 == i && q.2.category == 2)) = lv') (K : JL L xs (pc + 3) lv' st Mx Mm) : JL L xs pc lv st Mx Mm := by
  intro p l e s m args below meth c D stt dA b hp H locs ls hWx hWm hS hl
  obtain ⟨hx, hb, hr, hml, hown, hts, hlk, hargs, hX, hbl, hC⟩ := id hp
  exact lv_iinc hx hb hd hl (lvp_get hq) hv hn (lvp_filter h) (fun ls2 hl2 => K p l e s m args below meth c D stt dA b hp H locs ls2 hWx hWm hS hl2)
theorem l_lv {L : Nat} {xs : Nat → Int32} {pc : Nat} {lv : List (Nat × Value)} {st : List Value} {Mx Mm : Mem} {lv' : List (Nat × Value)} (ks : List Nat) (h : lv_pick lv ks = lv') (K : JL L xs pc lv' st Mx Mm) : JL L xs pc lv st Mx Mm := by
  intro p l e s m args below meth c D stt dA b hp H locs ls hWx hWm hS hl
  obtain ⟨hx, hb, hr, hml, hown, hts, hlk, hargs, hX, hbl, hC⟩ := id hp
  refine K p l e s m args below meth c D stt dA b hp H locs ls hWx hWm hS (lv_sub hl ks ?_)
  subst h
  unfold lv_pick
  rw [List.map_filterMap]
  congr 1
  funext k
  simp
theorem l_goto {L : Nat} {xs : Nat → Int32} {pc : Nat} {lv : List (Nat × Value)} {st : List Value} {Mx Mm : Mem} {off : Int} {tgt : Nat} (hd : decode code pc = .ok (.goto off, 3)) (ht : (pc : Int) + off = (tgt : Int)) (K : JL L xs tgt lv st Mx Mm) : JL L xs pc lv st Mx Mm := by
  intro p l e s m args below meth c D stt dA b hp H locs ls hWx hWm hS hl
  obtain ⟨hx, hb, hr, hml, hown, hts, hlk, hargs, hX, hbl, hC⟩ := id hp
  exact lv_goto hx hb hd ht (K p l e s m args below meth c D stt dA b hp H locs ls hWx hWm hS hl)
theorem l_gt_split {L : Nat} {xs : Nat → Int32} {pc : Nat} {lv : List (Nat × Value)} {st : List Value} {Mx Mm : Mem} {x y : Int32} {off : Int} {tgt : Nat} (hd : decode code pc = .ok (.if_icmp .gt off, 3)) (ht : (pc : Int) + off = (tgt : Int)) (K1 : y < x → JL L xs tgt lv st Mx Mm) (K2 : ¬ y < x → JL L xs (pc + 3) lv st Mx Mm) : JL L xs pc lv (.int y :: .int x :: st) Mx Mm := by
  intro p l e s m args below meth c D stt dA b hp H locs ls hWx hWm hS hl
  obtain ⟨hx, hb, hr, hml, hown, hts, hlk, hargs, hX, hbl, hC⟩ := id hp
  exact lv_icmp_gt hx hb hd ht (fun h => (K1 h p l e s m args below meth c D stt dA b hp H locs ls hWx hWm hS hl)) (fun h => (K2 h p l e s m args below meth c D stt dA b hp H locs ls hWx hWm hS hl))
theorem l_eq_t {L : Nat} {xs : Nat → Int32} {pc : Nat} {lv : List (Nat × Value)} {st : List Value} {Mx Mm : Mem} {x : Int32} {off : Int} {tgt : Nat} (hd : decode code pc = .ok (.if_icmp .eq off, 3)) (ht : (pc : Int) + off = (tgt : Int)) (K : JL L xs tgt lv st Mx Mm) : JL L xs pc lv (.int x :: .int x :: st) Mx Mm := by
  intro p l e s m args below meth c D stt dA b hp H locs ls hWx hWm hS hl
  obtain ⟨hx, hb, hr, hml, hown, hts, hlk, hargs, hX, hbl, hC⟩ := id hp
  exact lv_icmp_eq hx hb hd ht (fun _ => (K p l e s m args below meth c D stt dA b hp H locs ls hWx hWm hS hl)) (fun h => absurd rfl h)
theorem l_ifeq_t {L : Nat} {xs : Nat → Int32} {pc : Nat} {lv : List (Nat × Value)} {st : List Value} {Mx Mm : Mem} {x : Int32} {off : Int} {tgt : Nat} (hd : decode code pc = .ok (.ifCond .eq off, 3)) (ht : (pc : Int) + off = (tgt : Int)) (h0 : x = 0) (K : JL L xs tgt lv st Mx Mm) : JL L xs pc lv (.int x :: st) Mx Mm := by
  intro p l e s m args below meth c D stt dA b hp H locs ls hWx hWm hS hl
  obtain ⟨hx, hb, hr, hml, hown, hts, hlk, hargs, hX, hbl, hC⟩ := id hp
  exact lv_if_eq hx hb hd ht (fun _ => (K p l e s m args below meth c D stt dA b hp H locs ls hWx hWm hS hl)) (fun h => absurd h0 h)
theorem l_ifeq_f {L : Nat} {xs : Nat → Int32} {pc : Nat} {lv : List (Nat × Value)} {st : List Value} {Mx Mm : Mem} {x : Int32} {off : Int} {tgt : Nat} (hd : decode code pc = .ok (.ifCond .eq off, 3)) (ht : (pc : Int) + off = (tgt : Int)) (h0 : ¬ x = 0) (K : JL L xs (pc + 3) lv st Mx Mm) : JL L xs pc lv (.int x :: st) Mx Mm := by
  intro p l e s m args below meth c D stt dA b hp H locs ls hWx hWm hS hl
  obtain ⟨hx, hb, hr, hml, hown, hts, hlk, hargs, hX, hbl, hC⟩ := id hp
  exact lv_if_eq hx hb hd ht (fun h => absurd h h0) (fun _ => (K p l e s m args below meth c D stt dA b hp H locs ls hWx hWm hS hl))
theorem l_tableIn {L : Nat} {xs : Nat → Int32} {pc : Nat} {lv : List (Nat × Value)} {st : List Value} {Mx Mm : Mem} {dflt lo hi : Int} {offs : Array Int} {len : Nat} {x : Int32} {off : Int} {tgt : Nat} (hd : decode code pc = .ok (.tableswitch dflt lo hi offs, len)) (v : Int32) (hv : x = v) (h1 : ¬ v.toInt < lo) (h2 : ¬ hi < v.toInt) (ho : offs[(v.toInt - lo).toNat]? = some off) (ht : (pc : Int) + off = (tgt : Int)) (K : JL L xs tgt lv st Mx Mm) : JL L xs pc lv (.int x :: st) Mx Mm := by
  intro p l e s m args below meth c D stt dA b hp H locs ls hWx hWm hS hl
  obtain ⟨hx, hb, hr, hml, hown, hts, hlk, hargs, hX, hbl, hC⟩ := id hp
  subst hv
  exact lv_tableIn hx hb hd h1 h2 ho ht (K p l e s m args below meth c D stt dA b hp H locs ls hWx hWm hS hl)
theorem l_tableOut {L : Nat} {xs : Nat → Int32} {pc : Nat} {lv : List (Nat × Value)} {st : List Value} {Mx Mm : Mem} {dflt lo hi : Int} {offs : Array Int} {len : Nat} {x : Int32} {tgt : Nat} (hd : decode code pc = .ok (.tableswitch dflt lo hi offs, len)) (h : x.toInt < lo ∨ hi < x.toInt) (ht : (pc : Int) + dflt = (tgt : Int)) (K : JL L xs tgt lv st Mx Mm) : JL L xs pc lv (.int x :: st) Mx Mm := by
  intro p l e s m args below meth c D stt dA b hp H locs ls hWx hWm hS hl
  obtain ⟨hx, hb, hr, hml, hown, hts, hlk, hargs, hX, hbl, hC⟩ := id hp
  exact lv_tableOut hx hb hd h ht (K p l e s m args below meth c D stt dA b hp H locs ls hWx hWm hS hl)
theorem l_alen {L : Nat} {xs : Nat → Int32} {pc : Nat} {lv : List (Nat × Value)} {st : List Value} {Mx Mm : Mem} (hd : decode code pc = .ok (.arraylength, 1)) (K : JL L xs (pc + 1) lv (.int (nI L) :: st) Mx Mm) : JL L xs pc lv (.ref 301 :: st) Mx Mm := by
  intro p l e s m args below meth c D stt dA b hp H locs ls hWx hWm hS hl
  obtain ⟨hx, hb, hr, hml, hown, hts, hlk, hargs, hX, hbl, hC⟩ := id hp
  exact va_slen hx hb hX hbl (Nat.not_le.mpr hbl) hS hd (K p l e s m args below meth c D stt dA b hp H locs ls hWx hWm hS hl)
theorem l_ald {L : Nat} {xs : Nat → Int32} {pc : Nat} {lv : List (Nat × Value)} {st : List Value} {Mx Mm : Mem} {i : Int32} (hd : decode code pc = .ok (.iaload, 1)) (hin : vp_in i L) (K : JL L xs (pc + 1) lv (.int (xs i.toNatClampNeg) :: st) Mx Mm) : JL L xs pc lv (.int i :: .ref 301 :: st) Mx Mm := by
  intro p l e s m args below meth c D stt dA b hp H locs ls hWx hWm hS hl
  obtain ⟨hx, hb, hr, hml, hown, hts, hlk, hargs, hX, hbl, hC⟩ := id hp
  exact va_sld hx hb hX hbl (Nat.not_le.mpr hbl) hS hin hd (K p l e s m args below meth c D stt dA b hp H locs ls hWx hWm hS hl)
theorem l_end {L : Nat} {xs : Nat → Int32} {pc : Nat} {lv : List (Nat × Value)} {st : List Value} {Mx Mm : Mem} (hd : decode code pc = .ok (.ireturn, 1)) : JL L xs pc lv [.int 1] Mx Mm := by
  intro p l e s m args below meth c D stt dA b hp H locs ls hWx hWm hS hl
  obtain ⟨hx, hb, hr, hml, hown, hts, hlk, hargs, hX, hbl, hC⟩ := id hp
  subst hargs
  refine va_forget (fun q hq => hS.2.2 q hq) ?_
  refine W.widen (k := 600000) (n := 7302250) (Nat.le_of_ble_eq_true rfl) (Nat.le_of_ble_eq_true rfl) ?_
  exact lw_ret hx hb hr hlk hd
theorem adB_hi {base : Nat} {stt : Nat → Nat} {k : Nat} (h : 200 ≤ k) : adB base stt k = stt k := by unfold adB; rw [if_neg (by omega)]
theorem Cx.shift {D : va_G} {ad ad' : Nat → Nat} {dA : Nat → ClassId} {A B : Nat → Prop} {U : State} {H : Heap} (h : Cx D ad dA A U H) (hAB : ∀ q, B q → A q) (he : ∀ k, 200 ≤ k → ad' k = ad k) : Cx D ad' dA B U H := by
  obtain ⟨h1, h2, h3, h4, h5, h6, h7, h8, h9, h10, h11⟩ := h
  have e0 := he 200 (by omega)
  have e1 := he 201 (by omega)
  have e2 := he 230 (by omega)
  have f1 : (fun i => ad' (210 + i)) = fun i => ad (210 + i) := funext fun i => he _ (by omega)
  have f2 : (fun i => ad' (220 + i)) = fun i => ad (220 + i) := funext fun i => he _ (by omega)
  unfold Cx
  rw [e0, e1, e2, f1, f2]
  exact ⟨h1, h2.narrow hAB, h3.narrow hAB, h4.narrow hAB, h5.narrow hAB, h6.narrow hAB, fun i q hq => by rw [he _ (by omega)]; exact h7 i q hq, h8.narrow hAB, Or.imp (fun h => h.narrow hAB) (fun h => h.narrow hAB) h9, h10, h11⟩
theorem Cx.next2 {D : va_G} {ad ad' : Nat → Nat} {dA : Nat → ClassId} {A B : Nat → Prop} {s U : State} {H : Heap} {locs : List Loc} (h0 : Cx D ad dA A s s.heap) (h : Cx D ad' dA B s s.heap) (hS : va_S A s.heap H locs) (hW : s.WarmedH U.vm) (hAB : ∀ q, B q → A q := by assumption) (he : ∀ k, 200 ≤ k → ad' k = ad k := by intro k hk; exact (adB_hi hk).trans (adB_hi hk).symm) : Cx D ad' dA B U H := (h0.next hS hW).shift hAB he
theorem Wd.off {D : va_G} {ad : Nat → Nat} {dA : Nat → ClassId} {A B : Nat → Prop} {sh : Shp} {M : Mem} {H H1 : Heap} (h : Wd D ad dA A sh M H) (hk : ∀ q : Nat, q < H.size → ¬ B q → H1[q]? = H[q]?) (hAB : ∀ q, A q → B q → False) : Wd D ad dA A sh M H1 :=
  ⟨h.1.kept (fun k q hq => hk _ ((h.1 k q hq).lt) (fun hB => hAB _ (h.2.2 k q hq) hB)), h.2⟩
section WCA
variable {p : Program} {l : Launch} {e : Env} {R : Room} {s : State} {m : MethodId} {args : Array Value} {below : List Frame} {meth : Method} {c : Code} {H : Heap} {locs : List Loc} {cells slots mc ms : Nat} {Q : State → Prop} {pc : Nat} {ls : Array Slot} {rest st0 : List Value} {a : Array Value} {A B : Nat → Prop}
theorem wr_callA {wv : Option Value} {Post : State → Prop} (hr : va_Run p l e R s m args below meth c H locs cells slots mc ms (F0 m pc ls st0) rest (Qr wv Post B a) B) (hS : va_S A s.heap H locs) (hBA : ∀ q, B q → A q)
    (kk : ∀ (t : State) (H1 : Heap) (locs1 : List Loc), t.heap = H1 → Post t → (∀ q : Nat, q < H.size → ¬ B q → H1[q]? = H[q]?) → va_S A s.heap H1 locs1 → W p l e R s m args below meth c H1 locs1 (cells + mc) (slots + ms) Q (F0 m (pc + 3) ls (wv.toList ++ rest))) : W p l e R s m args below meth c H locs cells slots Q (F0 m pc ls st0) := by
  intro T hT X
  obtain ⟨v, st₀, t, T', L, h0, X', hL, e1, e2, ⟨hv, hp, hz, hk⟩, st⟩ := hr T hT X
  cases hv
  rw [h0] at hz hk
  obtain ⟨t2, a1, b1⟩ := kk t T'.heap (locs ++ L) e1.symm hp (fun q h1 h2 => by rw [e1]; exact hk q h1 h2)
    ⟨Nat.le_trans hS.1 (by rw [e1]; exact hz), fun q h1 h2 => by rw [e1, hk q (Nat.lt_of_lt_of_le h1 hS.1) (fun z => h2 (hBA _ z))]; exact hS.2.1 q h1 h2, fun q hq => by
      rcases List.mem_append.mp hq with h | h
      · exact hS.2.2 q h
      · exact hBA _ (hL q h)⟩ T' rfl X'
  exact ⟨t2, st t2 a1, b1⟩
end WCA
theorem l_callX {L : Nat} {xs : Nat → Int32} {pc : Nat} {lv : List (Nat × Value)} {st : List Value} {Mx Mm : Mem} {mt2 : Mt} {F2 : Option (Int32 × Mem)} {y : MethodName} {idx n : Nat} {as : List Value} {r : Int32} {M2 : Mem} (hd : decode code pc = .ok (.invokevirtual idx, 3)) (hct : Ct y mt2 wI (.ref 0 :: as) Mx F2) (hF : F2 = some (r, M2)) (hw : CV R_law idx y) (hcd : Cond.code y mt2.2.1 mt2.2.2.1 mt2.2.2.2.1 ∈ tbl) (hdn : Dn y n) (hn : as.length = n) (hsh : mt2.2.2.2.2.2 = SHx) (hdp : mt2.2.2.2.2.1 ≤ 100) (hmx : mt2.2.2.1 ≤ 40) (hst : (st.map fun v => v.category).sum ≤ 8) (hcy : y.cls = "ShakeHands") (hnr : ∀ (f g : Nat → Nat), as.map (rv f) = as.map (rv g)) (K : JL L xs (pc + 3) lv (.int r :: st) M2 Mm) : JL L xs pc lv (as.reverse ++ .ref 0 :: st) Mx Mm := by
  intro p l e s m args below meth c D stt dA b hp H locs ls hWx hWm hS hl
  obtain ⟨hx, hb, hr, hml, hown, hts, hlk, hargs, hX, hbl, hC⟩ := id hp
  have hA : ∀ q, Ax s.heap.size q → s.heap.size ≤ q := fun q h => h.1
  have hCx : Cx D (adB s.heap.size stt) dA (Ax s.heap.size) s s.heap := hC.shift hA (fun k hk => (adB_hi hk).trans (adB_hi hk).symm)
  have hM := hct r M2 hF l D (adB s.heap.size stt) dA (Ax s.heap.size)
  have hR : (rmd mt2.2.2.2.2.1).frames + 1 ≤ room_1.frames ∧ 8 + (mt2.2.2.1 + 11) + (rmd mt2.2.2.2.2.1).locals ≤ room_1.locals := by
    refine ⟨?_, ?_⟩
    · show mt2.2.2.2.2.1 + 1 ≤ 2048
      omega
    · show 8 + (mt2.2.2.1 + 11) + 64 * mt2.2.2.2.2.1 ≤ 84000
      omega
  have hSA : ∀ (H : Heap) (locs : List Loc), va_S (fun q => s.heap.size ≤ q) s.heap H locs → True := fun _ _ _ => trivial
  obtain ⟨hPx, hDx⟩ := hWx
  have ha0 : adL s.heap.size b 0 = adB s.heap.size stt 0 := rfl
  refine wr_callA (wv := some (.int r)) (rest := st.map (rv (adL s.heap.size b))) (va_runV (As := as.map (rv (adB s.heap.size stt))) (b := adB s.heap.size stt 0) (C := y.cls) (Ts := tbl) ⟨hx, hb, hml, hown, hts⟩ hM ⟨callB_of n hts (good_cons hcd) rfl rfl rfl (hts _ hw.2.2.2) (hts _ hw.1) hdn hR, hts _ hw.2.1, hts _ hw.2.2.1⟩ ⟨ct_blind, by rw [hcy]; exact va_recv hC.1 hPx (ci := 8) rfl (lay_obj sx_0 (by decide)), fun U hU hW => ⟨rfl, by rw [hU, hsh]; exact ⟨hPx, hDx⟩, by rw [hU]; exact Cx.next2 hC hCx hS hW⟩⟩ rfl (by rw [List.length_map]; exact hn) hl.1 ?_ (lv_room (by rw [rv_cats]; exact hst)) hd ⟨Nat.le_of_ble_eq_true rfl, Nat.le_of_ble_eq_true rfl⟩) hS hA (fun t H1 locs1 ht hpost hk1 hS1 => ?_)
  · show (as.reverse ++ .ref 0 :: st).map (rv (adL s.heap.size b)) = (as.map (rv (adB s.heap.size stt))).reverse ++ .ref (adB s.heap.size stt 0) :: st.map (rv (adL s.heap.size b))
    rw [List.map_append, List.map_reverse, hnr (adL s.heap.size b) (adB s.heap.size stt), List.map_cons]
    rfl
  obtain ⟨hP1, hD1⟩ := hpost
  rw [ht] at hP1
  rw [hsh] at hP1 hD1
  have hoff := Wd.off (H1 := H1) hWm hk1 (fun q h1 h2 => by have := h1.1; have := h2.1; have := h1.2; have := h2.2; omega)
  exact K p l e s m args below meth c D stt dA b hp H1 locs1 ls ⟨hP1, hD1⟩ hoff hS1 hl
theorem l_callM {L : Nat} {xs : Nat → Int32} {pc : Nat} {lv : List (Nat × Value)} {st : List Value} {Mx Mm : Mem} {mt2 : Mt} {F2 : Option (Int32 × Mem)} {y : MethodName} {idx n : Nat} {as : List Value} {r : Int32} {M2 : Mem} (hd : decode code pc = .ok (.invokevirtual idx, 3)) (hct : Ct y mt2 wI (.ref 0 :: as) Mm F2) (hF : F2 = some (r, M2)) (hw : CV R_law idx y) (hcd : Cond.code y mt2.2.1 mt2.2.2.1 mt2.2.2.2.1 ∈ tbl) (hdn : Dn y n) (hn : as.length = n) (hsh : mt2.2.2.2.2.2 = SHm) (hdp : mt2.2.2.2.2.1 ≤ 100) (hmx : mt2.2.2.1 ≤ 40) (hst : (st.map fun v => v.category).sum ≤ 8) (hcy : y.cls = "ShakeHandsModel") (hnr : ∀ (f g : Nat → Nat), as.map (rv f) = as.map (rv g)) (K : JL L xs (pc + 3) lv (.int r :: st) Mx M2) : JL L xs pc lv (as.reverse ++ .ref 300 :: st) Mx Mm := by
  intro p l e s m args below meth c D stt dA b hp H locs ls hWx hWm hS hl
  obtain ⟨hx, hb, hr, hml, hown, hts, hlk, hargs, hX, hbl, hC⟩ := id hp
  have hA : ∀ q, Am s.heap.size q → s.heap.size ≤ q := fun q h => by have := h.1; omega
  have hCx : Cx D (adB (s.heap.size + 50) stt) dA (Am s.heap.size) s s.heap := hC.shift hA (fun k hk => (adB_hi hk).trans (adB_hi hk).symm)
  have hM := hct r M2 hF l D (adB (s.heap.size + 50) stt) dA (Am s.heap.size)
  have hR : (rmd mt2.2.2.2.2.1).frames + 1 ≤ room_1.frames ∧ 8 + (mt2.2.2.1 + 11) + (rmd mt2.2.2.2.2.1).locals ≤ room_1.locals := by
    refine ⟨?_, ?_⟩
    · show mt2.2.2.2.2.1 + 1 ≤ 2048
      omega
    · show 8 + (mt2.2.2.1 + 11) + 64 * mt2.2.2.2.2.1 ≤ 84000
      omega
  have hSA : ∀ (H : Heap) (locs : List Loc), va_S (fun q => s.heap.size ≤ q) s.heap H locs → True := fun _ _ _ => trivial
  obtain ⟨hPx, hDx⟩ := hWm
  have ha0 : adL s.heap.size b 300 = adB (s.heap.size + 50) stt 0 := rfl
  refine wr_callA (wv := some (.int r)) (rest := st.map (rv (adL s.heap.size b))) (va_runV (As := as.map (rv (adB (s.heap.size + 50) stt))) (b := adB (s.heap.size + 50) stt 0) (C := y.cls) (Ts := tbl) ⟨hx, hb, hml, hown, hts⟩ hM ⟨callB_of n hts (good_cons hcd) rfl rfl rfl (hts _ hw.2.2.2) (hts _ hw.1) hdn hR, hts _ hw.2.1, hts _ hw.2.2.1⟩ ⟨ct_blind, by rw [hcy]; exact va_recv hC.1 hPx (ci := 9) rfl (lay_obj sm_0 (by decide)), fun U hU hW => ⟨rfl, by rw [hU, hsh]; exact ⟨hPx, hDx⟩, by rw [hU]; exact Cx.next2 hC hCx hS hW⟩⟩ rfl (by rw [List.length_map]; exact hn) hl.1 ?_ (lv_room (by rw [rv_cats]; exact hst)) hd ⟨Nat.le_of_ble_eq_true rfl, Nat.le_of_ble_eq_true rfl⟩) hS hA (fun t H1 locs1 ht hpost hk1 hS1 => ?_)
  · show (as.reverse ++ .ref 300 :: st).map (rv (adL s.heap.size b)) = (as.map (rv (adB (s.heap.size + 50) stt))).reverse ++ .ref (adB (s.heap.size + 50) stt 0) :: st.map (rv (adL s.heap.size b))
    rw [List.map_append, List.map_reverse, hnr (adL s.heap.size b) (adB (s.heap.size + 50) stt), List.map_cons]
    rfl
  obtain ⟨hP1, hD1⟩ := hpost
  rw [ht] at hP1
  rw [hsh] at hP1 hD1
  have hoff := Wd.off (H1 := H1) hWx hk1 (fun q h1 h2 => by have := h1.1; have := h2.1; have := h1.2; have := h2.2; omega)
  exact K p l e s m args below meth c D stt dA b hp H1 locs1 ls hoff ⟨hP1, hD1⟩ hS1 hl
theorem cV_Law_15 : CV R_law 15 y_ShakeHands_feed := ⟨tb_2 89 (by decide +kernel) rfl, im_ShakeHands_feed, se_ShakeHands_feed, ini_ShakeHands⟩
theorem dn_ShakeHands_feed : Dn y_ShakeHands_feed 1 := ⟨by decide +kernel, by decide +kernel, by decide +kernel⟩
theorem cV_Law_19 : CV R_law 19 y_Model_feed := ⟨tb_5 104 (by decide +kernel) rfl, im_Model_feed, se_Model_feed, ini_Model⟩
theorem dn_Model_feed : Dn y_Model_feed 1 := ⟨by decide +kernel, by decide +kernel, by decide +kernel⟩
theorem cV_Law_20 : CV R_law 20 y_ShakeHands_end := ⟨tb_2 97 (by decide +kernel) rfl, im_ShakeHands_end, se_ShakeHands_end, ini_ShakeHands⟩
theorem dn_ShakeHands_end : Dn y_ShakeHands_end 1 := ⟨by decide +kernel, by decide +kernel, by decide +kernel⟩
theorem cV_Law_24 : CV R_law 24 y_Model_end := ⟨tb_5 109 (by decide +kernel) rfl, im_Model_end, se_Model_end, ini_Model⟩
theorem dn_Model_end : Dn y_Model_end 1 := ⟨by decide +kernel, by decide +kernel, by decide +kernel⟩
theorem cV_Law_25 : CV R_law 25 y_ShakeHands_text := ⟨tb_2 101 (by decide +kernel) rfl, im_ShakeHands_text, se_ShakeHands_text, ini_ShakeHands⟩
theorem dn_ShakeHands_text : Dn y_ShakeHands_text 0 := ⟨by decide +kernel, by decide +kernel, by decide +kernel⟩
theorem cV_Law_29 : CV R_law 29 y_Model_text := ⟨tb_5 116 (by decide +kernel) rfl, im_Model_text, se_Model_text, ini_Model⟩
theorem dn_Model_text : Dn y_Model_text 0 := ⟨by decide +kernel, by decide +kernel, by decide +kernel⟩
theorem cV_Law_30 : CV R_law 30 y_ShakeHands_fault := ⟨tb_3 34 (by decide +kernel) rfl, im_ShakeHands_fault, se_ShakeHands_fault, ini_ShakeHands⟩
theorem dn_ShakeHands_fault : Dn y_ShakeHands_fault 0 := ⟨by decide +kernel, by decide +kernel, by decide +kernel⟩
theorem cV_Law_33 : CV R_law 33 y_Model_fault := ⟨tb_5 180 (by decide +kernel) rfl, im_Model_fault, se_Model_fault, ini_Model⟩
theorem dn_Model_fault : Dn y_Model_fault 0 := ⟨by decide +kernel, by decide +kernel, by decide +kernel⟩
theorem cV_Law_34 : CV R_law 34 y_ShakeHands_rule := ⟨tb_3 38 (by decide +kernel) rfl, im_ShakeHands_rule, se_ShakeHands_rule, ini_ShakeHands⟩
theorem dn_ShakeHands_rule : Dn y_ShakeHands_rule 1 := ⟨by decide +kernel, by decide +kernel, by decide +kernel⟩
theorem cV_Law_37 : CV R_law 37 y_Model_rule := ⟨tb_5 184 (by decide +kernel) rfl, im_Model_rule, se_Model_rule, ini_Model⟩
theorem dn_Model_rule : Dn y_Model_rule 1 := ⟨by decide +kernel, by decide +kernel, by decide +kernel⟩
theorem cV_Law_38 : CV R_law 38 y_ShakeHands_hand := ⟨tb_3 43 (by decide +kernel) rfl, im_ShakeHands_hand, se_ShakeHands_hand, ini_ShakeHands⟩
theorem dn_ShakeHands_hand : Dn y_ShakeHands_hand 2 := ⟨by decide +kernel, by decide +kernel, by decide +kernel⟩
theorem cV_Law_42 : CV R_law 42 y_Model_hand := ⟨tb_5 195 (by decide +kernel) rfl, im_Model_hand, se_Model_hand, ini_Model⟩
theorem dn_Model_hand : Dn y_Model_hand 2 := ⟨by decide +kernel, by decide +kernel, by decide +kernel⟩
theorem cV_Law_43 : CV R_law 43 y_ShakeHands_join := ⟨tb_3 47 (by decide +kernel) rfl, im_ShakeHands_join, se_ShakeHands_join, ini_ShakeHands⟩
theorem dn_ShakeHands_join : Dn y_ShakeHands_join 2 := ⟨by decide +kernel, by decide +kernel, by decide +kernel⟩
theorem cV_Law_47 : CV R_law 47 y_Model_join := ⟨tb_5 199 (by decide +kernel) rfl, im_Model_join, se_Model_join, ini_Model⟩
theorem dn_Model_join : Dn y_Model_join 2 := ⟨by decide +kernel, by decide +kernel, by decide +kernel⟩
theorem cV_Law_48 : CV R_law 48 y_ShakeHands_knows := ⟨tb_3 51 (by decide +kernel) rfl, im_ShakeHands_knows, se_ShakeHands_knows, ini_ShakeHands⟩
theorem dn_ShakeHands_knows : Dn y_ShakeHands_knows 1 := ⟨by decide +kernel, by decide +kernel, by decide +kernel⟩
theorem cV_Law_51 : CV R_law 51 y_Model_knows := ⟨tb_5 204 (by decide +kernel) rfl, im_Model_knows, se_Model_knows, ini_Model⟩
theorem dn_Model_knows : Dn y_Model_knows 1 := ⟨by decide +kernel, by decide +kernel, by decide +kernel⟩
theorem cV_Law_52 : CV R_law 52 y_ShakeHands_row := ⟨tb_3 62 (by decide +kernel) rfl, im_ShakeHands_row, se_ShakeHands_row, ini_ShakeHands⟩
theorem dn_ShakeHands_row : Dn y_ShakeHands_row 2 := ⟨by decide +kernel, by decide +kernel, by decide +kernel⟩
theorem cV_Law_55 : CV R_law 55 y_Model_row := ⟨tb_5 224 (by decide +kernel) rfl, im_Model_row, se_Model_row, ini_Model⟩
theorem dn_Model_row : Dn y_Model_row 2 := ⟨by decide +kernel, by decide +kernel, by decide +kernel⟩
theorem cV_Law_56 : CV R_law 56 y_ShakeHands_who := ⟨tb_3 72 (by decide +kernel) rfl, im_ShakeHands_who, se_ShakeHands_who, ini_ShakeHands⟩
theorem dn_ShakeHands_who : Dn y_ShakeHands_who 1 := ⟨by decide +kernel, by decide +kernel, by decide +kernel⟩
theorem cV_Law_59 : CV R_law 59 y_Model_who := ⟨tb_5 228 (by decide +kernel) rfl, im_Model_who, se_Model_who, ini_Model⟩
theorem dn_Model_who : Dn y_Model_who 1 := ⟨by decide +kernel, by decide +kernel, by decide +kernel⟩
theorem cV_Law_60 : CV R_law 60 y_ShakeHands_learn := ⟨tb_3 82 (by decide +kernel) rfl, im_ShakeHands_learn, se_ShakeHands_learn, ini_ShakeHands⟩
theorem dn_ShakeHands_learn : Dn y_ShakeHands_learn 2 := ⟨by decide +kernel, by decide +kernel, by decide +kernel⟩
theorem cV_Law_63 : CV R_law 63 y_Model_learn := ⟨tb_6 4 (by decide +kernel) rfl, im_Model_learn, se_Model_learn, ini_Model⟩
theorem dn_Model_learn : Dn y_Model_learn 2 := ⟨by decide +kernel, by decide +kernel, by decide +kernel⟩
theorem cV_Law_64 : CV R_law 64 y_ShakeHands_forget := ⟨tb_3 117 (by decide +kernel) rfl, im_ShakeHands_forget, se_ShakeHands_forget, ini_ShakeHands⟩
theorem dn_ShakeHands_forget : Dn y_ShakeHands_forget 2 := ⟨by decide +kernel, by decide +kernel, by decide +kernel⟩
theorem cV_Law_67 : CV R_law 67 y_Model_forget := ⟨tb_6 36 (by decide +kernel) rfl, im_Model_forget, se_Model_forget, ini_Model⟩
theorem dn_Model_forget : Dn y_Model_forget 2 := ⟨by decide +kernel, by decide +kernel, by decide +kernel⟩
theorem cV_Law_68 : CV R_law 68 y_ShakeHands_glove := ⟨tb_3 125 (by decide +kernel) rfl, im_ShakeHands_glove, se_ShakeHands_glove, ini_ShakeHands⟩
theorem dn_ShakeHands_glove : Dn y_ShakeHands_glove 2 := ⟨by decide +kernel, by decide +kernel, by decide +kernel⟩
theorem cV_Law_71 : CV R_law 71 y_Model_glove := ⟨tb_6 40 (by decide +kernel) rfl, im_Model_glove, se_Model_glove, ini_Model⟩
theorem dn_Model_glove : Dn y_Model_glove 2 := ⟨by decide +kernel, by decide +kernel, by decide +kernel⟩
theorem cV_Law_72 : CV R_law 72 y_ShakeHands_shake := ⟨tb_3 129 (by decide +kernel) rfl, im_ShakeHands_shake, se_ShakeHands_shake, ini_ShakeHands⟩
theorem dn_ShakeHands_shake : Dn y_ShakeHands_shake 2 := ⟨by decide +kernel, by decide +kernel, by decide +kernel⟩
theorem cV_Law_75 : CV R_law 75 y_Model_shake := ⟨tb_6 44 (by decide +kernel) rfl, im_Model_shake, se_Model_shake, ini_Model⟩
theorem dn_Model_shake : Dn y_Model_shake 2 := ⟨by decide +kernel, by decide +kernel, by decide +kernel⟩
theorem cV_Law_76 : CV R_law 76 y_ShakeHands_feast := ⟨tb_3 151 (by decide +kernel) rfl, im_ShakeHands_feast, se_ShakeHands_feast, ini_ShakeHands⟩
theorem dn_ShakeHands_feast : Dn y_ShakeHands_feast 1 := ⟨by decide +kernel, by decide +kernel, by decide +kernel⟩
theorem cV_Law_79 : CV R_law 79 y_Model_feast := ⟨tb_6 64 (by decide +kernel) rfl, im_Model_feast, se_Model_feast, ini_Model⟩
theorem dn_Model_feast : Dn y_Model_feast 1 := ⟨by decide +kernel, by decide +kernel, by decide +kernel⟩
theorem cV_Law_80 : CV R_law 80 y_ShakeHands_after := ⟨tb_3 167 (by decide +kernel) rfl, im_ShakeHands_after, se_ShakeHands_after, ini_ShakeHands⟩
theorem dn_ShakeHands_after : Dn y_ShakeHands_after 2 := ⟨by decide +kernel, by decide +kernel, by decide +kernel⟩
theorem cV_Law_83 : CV R_law 83 y_Model_after := ⟨tb_6 80 (by decide +kernel) rfl, im_Model_after, se_Model_after, ini_Model⟩
theorem dn_Model_after : Dn y_Model_after 2 := ⟨by decide +kernel, by decide +kernel, by decide +kernel⟩
theorem cV_Law_84 : CV R_law 84 y_ShakeHands_lost := ⟨tb_3 175 (by decide +kernel) rfl, im_ShakeHands_lost, se_ShakeHands_lost, ini_ShakeHands⟩
theorem dn_ShakeHands_lost : Dn y_ShakeHands_lost 1 := ⟨by decide +kernel, by decide +kernel, by decide +kernel⟩
theorem cV_Law_87 : CV R_law 87 y_Model_lost := ⟨tb_6 84 (by decide +kernel) rfl, im_Model_lost, se_Model_lost, ini_Model⟩
theorem dn_Model_lost : Dn y_Model_lost 1 := ⟨by decide +kernel, by decide +kernel, by decide +kernel⟩
theorem cV_Law_88 : CV R_law 88 y_ShakeHands_told := ⟨tb_3 179 (by decide +kernel) rfl, im_ShakeHands_told, se_ShakeHands_told, ini_ShakeHands⟩
theorem dn_ShakeHands_told : Dn y_ShakeHands_told 2 := ⟨by decide +kernel, by decide +kernel, by decide +kernel⟩
theorem cV_Law_91 : CV R_law 91 y_Model_told := ⟨tb_6 88 (by decide +kernel) rfl, im_Model_told, se_Model_told, ini_Model⟩
theorem dn_Model_told : Dn y_Model_told 2 := ⟨by decide +kernel, by decide +kernel, by decide +kernel⟩
theorem cV_Law_92 : CV R_law 92 y_ShakeHands_fewest := ⟨tb_3 183 (by decide +kernel) rfl, im_ShakeHands_fewest, se_ShakeHands_fewest, ini_ShakeHands⟩
theorem dn_ShakeHands_fewest : Dn y_ShakeHands_fewest 4 := ⟨by decide +kernel, by decide +kernel, by decide +kernel⟩
theorem cV_Law_96 : CV R_law 96 y_Model_fewest := ⟨tb_6 92 (by decide +kernel) rfl, im_Model_fewest, se_Model_fewest, ini_Model⟩
theorem dn_Model_fewest : Dn y_Model_fewest 4 := ⟨by decide +kernel, by decide +kernel, by decide +kernel⟩
theorem cV_Law_97 : CV R_law 97 y_ShakeHands_rounds := ⟨tb_3 234 (by decide +kernel) rfl, im_ShakeHands_rounds, se_ShakeHands_rounds, ini_ShakeHands⟩
theorem dn_ShakeHands_rounds : Dn y_ShakeHands_rounds 3 := ⟨by decide +kernel, by decide +kernel, by decide +kernel⟩
theorem cV_Law_101 : CV R_law 101 y_Model_rounds := ⟨tb_6 142 (by decide +kernel) rfl, im_Model_rounds, se_Model_rounds, ini_Model⟩
theorem dn_Model_rounds : Dn y_Model_rounds 3 := ⟨by decide +kernel, by decide +kernel, by decide +kernel⟩
theorem cV_Law_102 : CV R_law 102 y_ShakeHands_lose := ⟨tb_4 5 (by decide +kernel) rfl, im_ShakeHands_lose, se_ShakeHands_lose, ini_ShakeHands⟩
theorem dn_ShakeHands_lose : Dn y_ShakeHands_lose 1 := ⟨by decide +kernel, by decide +kernel, by decide +kernel⟩
theorem cV_Law_105 : CV R_law 105 y_Model_lose := ⟨tb_6 159 (by decide +kernel) rfl, im_Model_lose, se_Model_lose, ini_Model⟩
theorem dn_Model_lose : Dn y_Model_lose 1 := ⟨by decide +kernel, by decide +kernel, by decide +kernel⟩
theorem cV_Law_106 : CV R_law 106 y_ShakeHands_lives := ⟨tb_4 9 (by decide +kernel) rfl, im_ShakeHands_lives, se_ShakeHands_lives, ini_ShakeHands⟩
theorem dn_ShakeHands_lives : Dn y_ShakeHands_lives 1 := ⟨by decide +kernel, by decide +kernel, by decide +kernel⟩
theorem cV_Law_109 : CV R_law 109 y_Model_lives := ⟨tb_6 163 (by decide +kernel) rfl, im_Model_lives, se_Model_lives, ini_Model⟩
theorem dn_Model_lives : Dn y_Model_lives 1 := ⟨by decide +kernel, by decide +kernel, by decide +kernel⟩
theorem cV_Law_110 : CV R_law 110 y_ShakeHands_comes := ⟨tb_4 23 (by decide +kernel) rfl, im_ShakeHands_comes, se_ShakeHands_comes, ini_ShakeHands⟩
theorem dn_ShakeHands_comes : Dn y_ShakeHands_comes 1 := ⟨by decide +kernel, by decide +kernel, by decide +kernel⟩
theorem cV_Law_113 : CV R_law 113 y_Model_comes := ⟨tb_6 171 (by decide +kernel) rfl, im_Model_comes, se_Model_comes, ini_Model⟩
theorem dn_Model_comes : Dn y_Model_comes 1 := ⟨by decide +kernel, by decide +kernel, by decide +kernel⟩
theorem cV_Law_114 : CV R_law 114 y_ShakeHands_days := ⟨tb_4 35 (by decide +kernel) rfl, im_ShakeHands_days, se_ShakeHands_days, ini_ShakeHands⟩
theorem dn_ShakeHands_days : Dn y_ShakeHands_days 1 := ⟨by decide +kernel, by decide +kernel, by decide +kernel⟩
theorem cV_Law_117 : CV R_law 117 y_Model_days := ⟨tb_6 184 (by decide +kernel) rfl, im_Model_days, se_Model_days, ini_Model⟩
theorem dn_Model_days : Dn y_Model_days 1 := ⟨by decide +kernel, by decide +kernel, by decide +kernel⟩
theorem cV_Law_118 : CV R_law 118 y_ShakeHands_saw := ⟨tb_4 40 (by decide +kernel) rfl, im_ShakeHands_saw, se_ShakeHands_saw, ini_ShakeHands⟩
theorem dn_ShakeHands_saw : Dn y_ShakeHands_saw 2 := ⟨by decide +kernel, by decide +kernel, by decide +kernel⟩
theorem cV_Law_121 : CV R_law 121 y_Model_saw := ⟨tb_6 189 (by decide +kernel) rfl, im_Model_saw, se_Model_saw, ini_Model⟩
theorem dn_Model_saw : Dn y_Model_saw 2 := ⟨by decide +kernel, by decide +kernel, by decide +kernel⟩
theorem cV_Law_122 : CV R_law 122 y_ShakeHands_blind := ⟨tb_4 45 (by decide +kernel) rfl, im_ShakeHands_blind, se_ShakeHands_blind, ini_ShakeHands⟩
theorem dn_ShakeHands_blind : Dn y_ShakeHands_blind 0 := ⟨by decide +kernel, by decide +kernel, by decide +kernel⟩
theorem cV_Law_125 : CV R_law 125 y_Model_blind := ⟨tb_6 198 (by decide +kernel) rfl, im_Model_blind, se_Model_blind, ini_Model⟩
theorem dn_Model_blind : Dn y_Model_blind 0 := ⟨by decide +kernel, by decide +kernel, by decide +kernel⟩
theorem cV_Law_126 : CV R_law 126 y_ShakeHands_fits := ⟨tb_4 49 (by decide +kernel) rfl, im_ShakeHands_fits, se_ShakeHands_fits, ini_ShakeHands⟩
theorem dn_ShakeHands_fits : Dn y_ShakeHands_fits 2 := ⟨by decide +kernel, by decide +kernel, by decide +kernel⟩
theorem cV_Law_129 : CV R_law 129 y_Model_fits := ⟨tb_6 202 (by decide +kernel) rfl, im_Model_fits, se_Model_fits, ini_Model⟩
theorem dn_Model_fits : Dn y_Model_fits 2 := ⟨by decide +kernel, by decide +kernel, by decide +kernel⟩
theorem cV_Law_130 : CV R_law 130 y_ShakeHands_least := ⟨tb_4 65 (by decide +kernel) rfl, im_ShakeHands_least, se_ShakeHands_least, ini_ShakeHands⟩
theorem dn_ShakeHands_least : Dn y_ShakeHands_least 0 := ⟨by decide +kernel, by decide +kernel, by decide +kernel⟩
theorem cV_Law_133 : CV R_law 133 y_Model_least := ⟨tb_6 207 (by decide +kernel) rfl, im_Model_least, se_Model_least, ini_Model⟩
theorem dn_Model_least : Dn y_Model_least 0 := ⟨by decide +kernel, by decide +kernel, by decide +kernel⟩
theorem cV_Law_134 : CV R_law 134 y_ShakeHands_seats := ⟨tb_4 69 (by decide +kernel) rfl, im_ShakeHands_seats, se_ShakeHands_seats, ini_ShakeHands⟩
theorem dn_ShakeHands_seats : Dn y_ShakeHands_seats 3 := ⟨by decide +kernel, by decide +kernel, by decide +kernel⟩
theorem cV_Law_137 : CV R_law 137 y_Model_seats := ⟨tb_6 211 (by decide +kernel) rfl, im_Model_seats, se_Model_seats, ini_Model⟩
theorem dn_Model_seats : Dn y_Model_seats 3 := ⟨by decide +kernel, by decide +kernel, by decide +kernel⟩
theorem cV_Law_138 : CV R_law 138 y_ShakeHands_gloves := ⟨tb_4 81 (by decide +kernel) rfl, im_ShakeHands_gloves, se_ShakeHands_gloves, ini_ShakeHands⟩
theorem dn_ShakeHands_gloves : Dn y_ShakeHands_gloves 3 := ⟨by decide +kernel, by decide +kernel, by decide +kernel⟩
theorem cV_Law_141 : CV R_law 141 y_Model_gloves := ⟨tb_6 219 (by decide +kernel) rfl, im_Model_gloves, se_Model_gloves, ini_Model⟩
theorem dn_Model_gloves : Dn y_Model_gloves 3 := ⟨by decide +kernel, by decide +kernel, by decide +kernel⟩
theorem cV_Law_142 : CV R_law 142 y_ShakeHands_keep := ⟨tb_4 89 (by decide +kernel) rfl, im_ShakeHands_keep, se_ShakeHands_keep, ini_ShakeHands⟩
theorem dn_ShakeHands_keep : Dn y_ShakeHands_keep 1 := ⟨by decide +kernel, by decide +kernel, by decide +kernel⟩
theorem cV_Law_145 : CV R_law 145 y_Model_keep := ⟨tb_6 223 (by decide +kernel) rfl, im_Model_keep, se_Model_keep, ini_Model⟩
theorem dn_Model_keep : Dn y_Model_keep 1 := ⟨by decide +kernel, by decide +kernel, by decide +kernel⟩
theorem cV_Law_146 : CV R_law 146 y_ShakeHands_back := ⟨tb_4 101 (by decide +kernel) rfl, im_ShakeHands_back, se_ShakeHands_back, ini_ShakeHands⟩
theorem dn_ShakeHands_back : Dn y_ShakeHands_back 1 := ⟨by decide +kernel, by decide +kernel, by decide +kernel⟩
theorem cV_Law_149 : CV R_law 149 y_Model_back := ⟨tb_6 227 (by decide +kernel) rfl, im_Model_back, se_Model_back, ini_Model⟩
theorem dn_Model_back : Dn y_Model_back 1 := ⟨by decide +kernel, by decide +kernel, by decide +kernel⟩
theorem cV_Law_150 : CV R_law 150 y_ShakeHands_sheet := ⟨tb_4 105 (by decide +kernel) rfl, im_ShakeHands_sheet, se_ShakeHands_sheet, ini_ShakeHands⟩
theorem dn_ShakeHands_sheet : Dn y_ShakeHands_sheet 3 := ⟨by decide +kernel, by decide +kernel, by decide +kernel⟩
theorem cV_Law_153 : CV R_law 153 y_Model_sheet := ⟨tb_6 231 (by decide +kernel) rfl, im_Model_sheet, se_Model_sheet, ini_Model⟩
theorem dn_Model_sheet : Dn y_Model_sheet 3 := ⟨by decide +kernel, by decide +kernel, by decide +kernel⟩
theorem cV_Law_154 : CV R_law 154 y_ShakeHands_lay := ⟨tb_4 119 (by decide +kernel) rfl, im_ShakeHands_lay, se_ShakeHands_lay, ini_ShakeHands⟩
theorem dn_ShakeHands_lay : Dn y_ShakeHands_lay 3 := ⟨by decide +kernel, by decide +kernel, by decide +kernel⟩
theorem cV_Law_157 : CV R_law 157 y_Model_lay := ⟨tb_6 239 (by decide +kernel) rfl, im_Model_lay, se_Model_lay, ini_Model⟩
theorem dn_Model_lay : Dn y_Model_lay 3 := ⟨by decide +kernel, by decide +kernel, by decide +kernel⟩
theorem cV_Law_158 : CV R_law 158 y_ShakeHands_read := ⟨tb_4 132 (by decide +kernel) rfl, im_ShakeHands_read, se_ShakeHands_read, ini_ShakeHands⟩
theorem dn_ShakeHands_read : Dn y_ShakeHands_read 4 := ⟨by decide +kernel, by decide +kernel, by decide +kernel⟩
theorem cV_Law_161 : CV R_law 161 y_Model_read := ⟨tb_7 3 (by decide +kernel) rfl, im_Model_read, se_Model_read, ini_Model⟩
theorem dn_Model_read : Dn y_Model_read 4 := ⟨by decide +kernel, by decide +kernel, by decide +kernel⟩
theorem cV_Law_162 : CV R_law 162 y_ShakeHands_torn := ⟨tb_4 144 (by decide +kernel) rfl, im_ShakeHands_torn, se_ShakeHands_torn, ini_ShakeHands⟩
theorem dn_ShakeHands_torn : Dn y_ShakeHands_torn 0 := ⟨by decide +kernel, by decide +kernel, by decide +kernel⟩
theorem cV_Law_165 : CV R_law 165 y_Model_torn := ⟨tb_7 8 (by decide +kernel) rfl, im_Model_torn, se_Model_torn, ini_Model⟩
theorem dn_Model_torn : Dn y_Model_torn 0 := ⟨by decide +kernel, by decide +kernel, by decide +kernel⟩
theorem cV_Law_166 : CV R_law 166 y_ShakeHands_count := ⟨tb_4 148 (by decide +kernel) rfl, im_ShakeHands_count, se_ShakeHands_count, ini_ShakeHands⟩
theorem dn_ShakeHands_count : Dn y_ShakeHands_count 1 := ⟨by decide +kernel, by decide +kernel, by decide +kernel⟩
theorem cV_Law_169 : CV R_law 169 y_Model_count := ⟨tb_7 12 (by decide +kernel) rfl, im_Model_count, se_Model_count, ini_Model⟩
theorem dn_Model_count : Dn y_Model_count 1 := ⟨by decide +kernel, by decide +kernel, by decide +kernel⟩
