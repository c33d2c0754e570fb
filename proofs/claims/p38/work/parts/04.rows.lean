section
/-! THE FLAT MEMORY: a pure picture of all cells of one object and what hangs on it; J: 'if the pure residue is some (r, M'), the machine returns r with M'' -/
abbrev Mem : Type := (Nat → Nat → Int32) × (Nat → Nat → Int64)
abbrev Shp : Type := List (Nat × List Nat)
def si (M : Mem) (a k : Nat) (v : Int32) : Mem := (fun x y => if x = a ∧ y = k then v else M.1 x y, M.2)
def sl (M : Mem) (a k : Nat) (v : Int64) : Mem := (M.1, fun x y => if x = a ∧ y = k then v else M.2 x y)
def cpI (M : Mem) (a sp b dp n : Nat) : Mem := (fun x y => if x = b ∧ dp ≤ y ∧ y < dp + n then M.1 a (sp + (y - dp)) else M.1 x y, M.2)
def cpL (M : Mem) (a sp b dp n : Nat) : Mem := (M.1, fun x y => if x = b ∧ dp ≤ y ∧ y < dp + n then M.2 a (sp + (y - dp)) else M.2 x y)
def rv (ad : Nat → Nat) (v : Value) : Value := match v with
  | .ref a => .ref (ad a)
  | w => w
def rvp (ad : Nat → Nat) (q : Nat × Value) : Nat × Value := (q.1, rv ad q.2)
def fldOf (ad : Nat → Nat) (M : Mem) (a i kd : Nat) : Value := match kd with
  | 0 => .int (M.1 a i)
  | 1 => .long (M.2 a i)
  | r + 2 => .ref (ad r)
def objOf (ad : Nat → Nat) (M : Mem) (a : Nat) (ds : List Nat) : List Value := ds.mapIdx (fun i kd => fldOf ad M a i kd)
def cellOf (ad : Nat → Nat) (dA : Nat → ClassId) (M : Mem) (a : Nat) (q : Nat × List Nat) : va_E :=
  if q.1 < 100 then .inr (q.1, objOf ad M a q.2)
  else if q.1 < 103 then .inl (dA (q.1 - 100), q.2.headD 0, .inl (M.1 a))
  else if q.1 = 103 then .inl (dA 3, q.2.headD 0, .inr (.inl (M.2 a)))
  else .inl (dA (q.1 - 100), q.2.length, .inr (.inr (.inr (.inr (fun j => (q.2[j]?).map ad)))))
def lay (ad : Nat → Nat) (dA : Nat → ClassId) (sh : Shp) (M : Mem) : va_W := sh.mapIdx (fun a q => (ad a, cellOf ad dA M a q))
def tysOf (dA : Nat → ClassId) : List (ClassId × FieldType) := [(dA 0, .int), (dA 1, .byte), (dA 2, .boolean), (dA 3, .long), (dA 4, .object "ShakeHands$Minds"), (dA 5, .object "ShakeHands$Sheet"), (dA 6, .array .long)]
theorem lay_get {ad : Nat → Nat} {dA : Nat → ClassId} {sh : Shp} {M : Mem} {a : Nat} {q : Nat × List Nat} (h : sh[a]? = some q) : (lay ad dA sh M)[a]? = some (ad a, cellOf ad dA M a q) := by
  simp [lay, h]
theorem obj_get {ad : Nat → Nat} {M : Mem} {a k kd : Nat} {ds : List Nat} (h : ds[k]? = some kd) : (objOf ad M a ds)[k]? = some (fldOf ad M a k kd) := by
  simp [objOf, h]
theorem cell_obj {ad : Nat → Nat} {dA : Nat → ClassId} {M : Mem} {a ci : Nat} {ds : List Nat} (h : ci < 100) : cellOf ad dA M a (ci, ds) = .inr (ci, objOf ad M a ds) := by
  simp [cellOf, h]
theorem cell_off {ad : Nat → Nat} {dA : Nat → ClassId} {M M' : Mem} {a : Nat} {q : Nat × List Nat} (h1 : M'.1 a = M.1 a) (h2 : M'.2 a = M.2 a) : cellOf ad dA M' a q = cellOf ad dA M a q := by
  have h : objOf ad M' a q.2 = objOf ad M a q.2 := by
    unfold objOf
    congr 1
    funext i kd
    match kd with
    | 0 => simp [fldOf, h1]
    | 1 => simp [fldOf, h2]
    | r + 2 => rfl
  unfold cellOf
  rw [h, h1, h2]
theorem lay_set {ad : Nat → Nat} {dA : Nat → ClassId} {sh : Shp} {M M' : Mem} {a : Nat} {q : Nat × List Nat} {x : va_E} (h : sh[a]? = some q) (hx : x = cellOf ad dA M' a q) (ho : ∀ j, j ≠ a → M'.1 j = M.1 j ∧ M'.2 j = M.2 j) : (lay ad dA sh M).set a (ad a, x) = lay ad dA sh M' := by
  apply List.ext_getElem?
  intro j
  rw [List.getElem?_set]
  by_cases e : a = j
  · subst e
    have hl : a < (lay ad dA sh M).length := by
      have := (List.getElem?_eq_some_iff.mp (lay_get (ad := ad) (dA := dA) (M := M) h)).1
      exact this
    rw [if_pos rfl, if_pos hl, lay_get h, hx]
  · rw [if_neg e]
    cases hq : sh[j]? with
    | none => simp [lay, hq]
    | some q2 => rw [lay_get hq, lay_get hq, cell_off (ho j (fun e2 => e e2.symm)).1 (ho j (fun e2 => e e2.symm)).2]
theorem obj_set {ad : Nat → Nat} {M M' : Mem} {a k kd : Nat} {ds : List Nat} {v : Value} (h : ds[k]? = some kd) (hv : fldOf ad M' a k kd = v) (ho : ∀ j kd2, j ≠ k → fldOf ad M' a j kd2 = fldOf ad M a j kd2) : (objOf ad M a ds).set k v = objOf ad M' a ds := by
  apply List.ext_getElem?
  intro j
  rw [List.getElem?_set]
  by_cases e : k = j
  · subst e
    have hl : k < (objOf ad M a ds).length := (List.getElem?_eq_some_iff.mp (obj_get (ad := ad) (M := M) (a := a) h)).1
    rw [if_pos rfl, if_pos hl, obj_get h, hv]
  · rw [if_neg e]
    cases hq : ds[j]? with
    | none => simp [objOf, hq]
    | some q2 => rw [obj_get hq, obj_get hq, ho j q2 (fun e2 => e e2.symm)]
theorem si_off {M : Mem} {a k j : Nat} {v : Int32} (h : j ≠ a) : (si M a k v).1 j = M.1 j ∧ (si M a k v).2 j = M.2 j := ⟨by funext y; simp [si, h], rfl⟩
theorem sl_off {M : Mem} {a k j : Nat} {v : Int64} (h : j ≠ a) : (sl M a k v).1 j = M.1 j ∧ (sl M a k v).2 j = M.2 j := ⟨rfl, by funext y; simp [sl, h]⟩
theorem cpI_off {M : Mem} {a sp b dp n j : Nat} (h : j ≠ b) : (cpI M a sp b dp n).1 j = M.1 j ∧ (cpI M a sp b dp n).2 j = M.2 j := ⟨by funext y; simp [cpI, h], rfl⟩
theorem cpL_off {M : Mem} {a sp b dp n j : Nat} (h : j ≠ b) : (cpL M a sp b dp n).1 j = M.1 j ∧ (cpL M a sp b dp n).2 j = M.2 j := ⟨rfl, by funext y; simp [cpL, h]⟩
theorem rv_cat (ad : Nat → Nat) (v : Value) : (rv ad v).category = v.category := by cases v <;> rfl
theorem rv_cats (ad : Nat → Nat) : ∀ st : List Value, ((st.map (rv ad)).map fun v => v.category).sum = (st.map fun v => v.category).sum
  | [] => rfl
  | v :: st => by
    have h := rv_cats ad st
    simp only [List.map_cons, List.sum_cons, rv_cat]
    rw [h]
theorem lvp_get {ad : Nat → Nat} {lv : List (Nat × Value)} {k i : Nat} {v : Value} (h : lv[k]? = some (i, v)) : (lv.map (rvp ad))[k]? = some (i, rv ad v) := by
  rw [List.getElem?_map, h]; rfl
theorem lvp_filter {ad : Nat → Nat} {lv lv' : List (Nat × Value)} {i : Nat} {v : Value} (h : (i, v) :: lv.filter (fun q => !(q.1 == i) && !(q.1 + 1 == i && q.2.category == 2)) = lv') : (i, rv ad v) :: (lv.map (rvp ad)).filter (fun q => !(q.1 == i) && !(q.1 + 1 == i && q.2.category == 2)) = lv'.map (rvp ad) := by
  subst h
  rw [List.map_cons, List.filter_map]
  have e : ((fun q : Nat × Value => !(q.1 == i) && !(q.1 + 1 == i && q.2.category == 2)) ∘ rvp ad) = (fun q : Nat × Value => !(q.1 == i) && !(q.1 + 1 == i && q.2.category == 2)) := by
    funext q
    simp [rvp, rv_cat]
  rw [e]
  rfl
theorem lvp_filter2 {ad : Nat → Nat} {lv lv' : List (Nat × Value)} {i : Nat} {v : Value} {f : Nat × Value → Bool} (hf : ∀ q, f (rvp ad q) = f q) (h : (i, v) :: lv.filter f = lv') : (i, rv ad v) :: (lv.map (rvp ad)).filter f = lv'.map (rvp ad) := by
  subst h
  rw [List.map_cons, List.filter_map]
  have e : f ∘ rvp ad = f := funext hf
  rw [e]
  rfl
theorem lvp_args (ad : Nat → Nat) : ∀ (i : Nat) (vs : List Value), lv_args i (vs.map (rv ad)) = (lv_args i vs).map (rvp ad)
  | _, [] => rfl
  | i, v :: vs => by
    simp only [List.map_cons, lv_args, rv_cat, rvp]
    rw [lvp_args ad _ vs]
theorem lvp_sl (ad : Nat → Nat) (vs : List Value) : (lg_sl (vs.map (rv ad))).length = (lg_sl vs).length := by
  induction vs with
  | nil => rfl
  | cons v vs ih =>
    simp only [lg_sl, List.map_cons, List.flatMap_cons, List.length_append, rv_cat] at ih ⊢
    rw [ih]
    by_cases h : v.category = 2 <;> simp [h]
end
section
/-! J: the machine stands in a method of mt at pc, with locals lv, operand stack st, memory M; F is the pure residue of the method from there on -/
-- a method's constants: its class, code, locals, answer's type, depth of its calls, and the shapes of all cells
abbrev Mt : Type := String × ByteArray × Nat × Option FieldType × Nat × Shp
def lsr : Nat → Int32 := fun j => ([0, 0, 1, 0, 1, 2, 0, 1, 2, 3, 0, 1, 2, 3, 4] : List Int32).getD j 0
def grt : Nat → Int32 := fun j => ([1, 2, 2, 3, 3, 3, 4, 4, 4, 4, 5, 5, 5, 5, 5] : List Int32).getD j 0
def stLen : List Nat := [6, 4, 5, 4, 4, 5, 5]
def stByt : List (List Int32) := [[112, 101, 111, 112, 108, 101], [104, 111, 108, 100], [107, 110, 111, 119, 115], [106, 111, 105, 110], [104, 97, 110, 100], [100, 97, 105, 108, 121], [103, 108, 111, 118, 101]]
def stTxt : List (Nat × String) := [(115, "people"), (123, "hold"), (127, "knows"), (132, "join"), (137, "hand"), (150, "daily"), (157, "glove")]
def nestF : List (String × Nat × String) := [("ShakeHands$Circle", 50, "LESSER"), ("ShakeHands$Circle", 53, "GREATER"), ("ShakeHands$Search", 113, "LESSER"), ("ShakeHands$Search", 116, "GREATER")]
def nestM : List (String × Nat × MethodName) := [("ShakeHands$Search", 146, y_ShakeHands_pairOf), ("ShakeHands$Teller", 206, y_ShakeHands_pairOf)]
/-- what holds of the machine besides the object's own cells: class tables, static arrays, string constants (ids 200, 201, 210.., 220..) -/
def Cx (D : va_G) (ad : Nat → Nat) (dA : Nat → ClassId) (A : Nat → Prop) (U : State) (H : Heap) : Prop :=
  va_K D cl (tysOf dA) U ∧ va_Z "ShakeHands" "LESSER" "[I" (.ref (ad 200)) A U H ∧ va_T .int (ad 200) 15 (fun j => .int (lsr j)) A U H ∧
  va_Z "ShakeHands" "GREATER" "[I" (.ref (ad 201)) A U H ∧ va_T .int (ad 201) 15 (fun j => .int (grt j)) A U H ∧
  vk_S 7 stLen stByt (fun i => ad (210 + i)) (fun i => ad (220 + i)) A U H ∧ (∀ i q, stTxt[i]? = some q → vk_R "ShakeHands$Teller" q.1 q.2 (ad (210 + i)) U) ∧
  va_Z "java/lang/String" "COMPACT_STRINGS" "Z" (.int 1) A U H ∧ (va_Z "jdk/internal/util/Preconditions" "SIOOBE_FORMATTER" "Ljava/util/function/BiFunction;" .null A U H ∨ va_Z "jdk/internal/util/Preconditions" "SIOOBE_FORMATTER" "Ljava/util/function/BiFunction;" (.ref (ad 230)) A U H) ∧
  (∀ q ∈ nestF, va_Nw (.fieldLinkNest q.1 q.2.1 "ShakeHands" q.2.2 "[I" "ShakeHands") U) ∧ (∀ q ∈ nestM, va_Nw (.methodLinkNest q.1 q.2.1 q.2.2 "ShakeHands") U)
theorem Cx.next {D : va_G} {ad : Nat → Nat} {dA : Nat → ClassId} {A : Nat → Prop} {s U : State} {H : Heap} {locs : List Loc} (h : Cx D ad dA A s s.heap) (hS : va_S A s.heap H locs) (hW : s.WarmedH U.vm) : Cx D ad dA A U H := by
  obtain ⟨h1, h2, h3, h4, h5, h6, h7, h8, h9, h10, h11⟩ := h
  have hk : ∀ a : Nat, a < s.heap.size → ¬ A a → H[a]? = s.heap[a]? := hS.2.1
  have hv := hW.alike
  exact ⟨va_K.moved hv h1, va_Z.kept (va_Z.moved hv h2) hk, va_T.kept (va_T.moved hv h3) hk, va_Z.kept (va_Z.moved hv h4) hk, va_T.kept (va_T.moved hv h5) hk, vk_S.kept (vk_S.moved hv h6) hk, fun i q hq => vk_R.warm hW (h7 i q hq), va_Z.kept (va_Z.moved hv h8) hk, Or.imp (fun h => va_Z.kept (va_Z.moved hv h) hk) (fun h => va_Z.kept (va_Z.moved hv h) hk) h9, fun q hq => va_Nw.warmF hW (h10 q hq), fun q hq => va_Nw.warmM hW (h11 q hq)⟩
theorem Cx.blind {D : va_G} {ad : Nat → Nat} {dA : Nat → ClassId} {A : Nat → Prop} {U : State} {g : JFrame} {mk : MethodId} {a : Array Value} (h : Cx D ad dA A U U.heap) : Cx D ad dA A (U.calling g mk a) (U.calling g mk a).heap := by
  obtain ⟨h1, h2, h3, h4, h5, h6, h7, h8, h9, h10, h11⟩ := h
  have hv : U.vm.Alike (U.calling g mk a).vm := Vm.Alike.refl U.vm
  exact ⟨va_K.moved (u := U) hv h1, va_Z.moved (u := U) hv h2, va_T.moved (u := U) hv h3, va_Z.moved (u := U) hv h4, va_T.moved (u := U) hv h5, vk_S.moved (u := U) hv h6, fun i q hq => vk_R.same (u := U) rfl (h7 i q hq), va_Z.moved (u := U) hv h8, Or.imp (fun h => va_Z.moved (u := U) hv h) (fun h => va_Z.moved (u := U) hv h) h9, fun q hq => va_Nw.same rfl rfl (h10 q hq), fun q hq => va_Nw.same rfl rfl (h11 q hq)⟩
def Wd (D : va_G) (ad : Nat → Nat) (dA : Nat → ClassId) (A : Nat → Prop) (sh : Shp) (M : Mem) (H : Heap) : Prop := va_P D cl (lay ad dA sh M) H ∧ va_D A (lay ad dA sh M)
def Qr (wv : Option Value) (Post : State → Prop) (A : Nat → Prop) : Array Value → State → Outcome → State → Prop := fun _ st o t => o = .returned wv ∧ Post t ∧ va_F A st t
def rmc (d mc ms : Nat) : Room := { frames := d, cells := mc, slots := ms, locals := 64 * d }
abbrev rmd (d : Nat) : Room := rmc d 0 0
def Hp (mt : Mt) (p : Program) (s : State) (m : MethodId) (args : Array Value) (meth : Method) (c : Code) (D : va_G) (ad : Nat → Nat) (dA : Nat → ClassId) (A : Nat → Prop) : Prop :=
  p.tables.exec = Jvm.exec ∧ c.code = mt.2.1 ∧ meth.sig.returnType = mt.2.2.2.1 ∧ c.maxLocals = mt.2.2.1 ∧ s.vm.findClass mt.1 = some m.cls ∧ (∀ w ∈ tbl, w.before args s = true) ∧ meth.locks = false ∧ Cx D ad dA A s s.heap
def J {R : Type} (mt : Mt) (wr : R → Option Value) (pc : Nat) (lv : List (Nat × Value)) (st : List Value) (M : Mem) (F : Option (R × Mem)) : Prop :=
  ∀ (r : R) (M' : Mem), F = some (r, M') → ∀ (p : Program) (l : Launch) (e : Env) (s : State) (m : MethodId) (args : Array Value) (below : List Frame) (meth : Method) (c : Code) (D : va_G) (ad : Nat → Nat) (dA : Nat → ClassId) (A : Nat → Prop) (mc ms : Nat), Hp mt p s m args meth c D ad dA A →
    ∀ (H : Heap) (locs : List Loc) (ls : Array Slot), va_P D cl (lay ad dA mt.2.2.2.2.2 M) H → va_D A (lay ad dA mt.2.2.2.2.2 M) → va_S A s.heap H locs → lv_has ls mt.2.2.1 (lv.map (rvp ad)) →
      W p l e (rmc mt.2.2.2.2.1 mc ms) s m args below meth c H locs mc ms (MQ below (Qr (wr r) (fun t => Wd D ad dA A mt.2.2.2.2.2 M' t.heap) A) args s mc ms A) (F0 m pc ls (st.map (rv ad)))
/-- a method's contract -/
def Ct {R : Type} (y : MethodName) (mt : Mt) (wr : R → Option Value) (as : List Value) (M : Mem) (F : Option (R × Mem)) : Prop :=
  ∀ (r : R) (M' : Mem), F = some (r, M') → ∀ (l : Launch) (D : va_G) (ad : Nat → Nat) (dA : Nat → ClassId) (A : Nat → Prop),
    Met l y (.code y mt.2.1 mt.2.2.1 mt.2.2.2.1 :: tbl) (rmd mt.2.2.2.2.1) (va_Pc (as.map (rv ad)) (fun U => Wd D ad dA A mt.2.2.2.2.2 M U.heap ∧ Cx D ad dA A U U.heap)) (Qr (wr r) (fun t => Wd D ad dA A mt.2.2.2.2.2 M' t.heap) A) 0 0 A
theorem ct_of {R : Type} {y : MethodName} {mt : Mt} {wr : R → Option Value} {as : List Value} {M : Mem} {F : Option (R × Mem)} (hy : plainName y.cls = true) (hn : y.cls = mt.1) (hl : (lg_sl as).length ≤ mt.2.2.1) (hJ : J mt wr 0 (lv_args 0 as) [] M F) : Ct y mt wr as M F := by
  intro r M' hF l D ad dA A
  refine Met.ofW (cc := mt.2.1) (maxL := mt.2.2.1) (ret := mt.2.2.2.1) hy rfl ?_
  intro p e s m args below meth c s₁ B hml hv
  obtain ⟨rfl, ⟨hP, hD⟩, hC⟩ := hv
  have hts := atoms_spec (ws := .code y mt.2.1 mt.2.2.1 mt.2.2.2.1 :: tbl) B.pre
  have hown : s.vm.findClass y.cls = some m.cls := findClass_of_methodNamed B.named
  have hS : va_S A s.heap s.heap [] := va_S.rf
  have hls := lv_entry (as.map (rv ad)) (n := mt.2.2.1) (by rw [lvp_sl]; exact hl)
  rw [lg_entry_eq]
  rw [lvp_args] at hls
  exact hJ r M' hF p l e s m _ below meth c D ad dA A 0 0 ⟨B.exec, B.bytes, B.returns, hml, by rw [← hn]; exact hown, fun w h => hts w (List.mem_cons_of_mem _ h), B.notSynchronized, hC⟩ s.heap [] _ hP hD hS hls
end
section
/-! ROWS: an instruction, a row (written by wip/gen/rows.py) -/
theorem j_iadd {R : Type} {mt : Mt} {wr : R → Option Value} {pc : Nat} {lv : List (Nat × Value)} {st : List Value} {M : Mem} {F : Option (R × Mem)} {x y : Int32} (hd : decode mt.2.1 pc = .ok (.iadd, 1)) (K : J mt wr (pc + 1) lv (.int (x + y) :: st) M F) : J mt wr pc lv (.int y :: .int x :: st) M F := by
  intro r M' hF p l e s m args below meth c D ad dA A mc ms hp H locs ls hP hD hS hl
  obtain ⟨hx, hb, hr, hml, hown, hts, hlk, hC⟩ := id hp
  exact lv_iadd hx hb hd (K r M' hF p l e s m args below meth c D ad dA A mc ms hp H locs ls hP hD hS hl)
theorem j_isub {R : Type} {mt : Mt} {wr : R → Option Value} {pc : Nat} {lv : List (Nat × Value)} {st : List Value} {M : Mem} {F : Option (R × Mem)} {x y : Int32} (hd : decode mt.2.1 pc = .ok (.isub, 1)) (K : J mt wr (pc + 1) lv (.int (x - y) :: st) M F) : J mt wr pc lv (.int y :: .int x :: st) M F := by
  intro r M' hF p l e s m args below meth c D ad dA A mc ms hp H locs ls hP hD hS hl
  obtain ⟨hx, hb, hr, hml, hown, hts, hlk, hC⟩ := id hp
  exact lv_isub hx hb hd (K r M' hF p l e s m args below meth c D ad dA A mc ms hp H locs ls hP hD hS hl)
theorem j_imul {R : Type} {mt : Mt} {wr : R → Option Value} {pc : Nat} {lv : List (Nat × Value)} {st : List Value} {M : Mem} {F : Option (R × Mem)} {x y : Int32} (hd : decode mt.2.1 pc = .ok (.imul, 1)) (K : J mt wr (pc + 1) lv (.int (x * y) :: st) M F) : J mt wr pc lv (.int y :: .int x :: st) M F := by
  intro r M' hF p l e s m args below meth c D ad dA A mc ms hp H locs ls hP hD hS hl
  obtain ⟨hx, hb, hr, hml, hown, hts, hlk, hC⟩ := id hp
  exact lv_imul hx hb hd (K r M' hF p l e s m args below meth c D ad dA A mc ms hp H locs ls hP hD hS hl)
theorem j_iand {R : Type} {mt : Mt} {wr : R → Option Value} {pc : Nat} {lv : List (Nat × Value)} {st : List Value} {M : Mem} {F : Option (R × Mem)} {x y : Int32} (hd : decode mt.2.1 pc = .ok (.iand, 1)) (K : J mt wr (pc + 1) lv (.int (x &&& y) :: st) M F) : J mt wr pc lv (.int y :: .int x :: st) M F := by
  intro r M' hF p l e s m args below meth c D ad dA A mc ms hp H locs ls hP hD hS hl
  obtain ⟨hx, hb, hr, hml, hown, hts, hlk, hC⟩ := id hp
  exact lv_iand hx hb hd (K r M' hF p l e s m args below meth c D ad dA A mc ms hp H locs ls hP hD hS hl)
theorem j_ior {R : Type} {mt : Mt} {wr : R → Option Value} {pc : Nat} {lv : List (Nat × Value)} {st : List Value} {M : Mem} {F : Option (R × Mem)} {x y : Int32} (hd : decode mt.2.1 pc = .ok (.ior, 1)) (K : J mt wr (pc + 1) lv (.int (x ||| y) :: st) M F) : J mt wr pc lv (.int y :: .int x :: st) M F := by
  intro r M' hF p l e s m args below meth c D ad dA A mc ms hp H locs ls hP hD hS hl
  obtain ⟨hx, hb, hr, hml, hown, hts, hlk, hC⟩ := id hp
  exact lv_ior hx hb hd (K r M' hF p l e s m args below meth c D ad dA A mc ms hp H locs ls hP hD hS hl)
theorem j_ixor {R : Type} {mt : Mt} {wr : R → Option Value} {pc : Nat} {lv : List (Nat × Value)} {st : List Value} {M : Mem} {F : Option (R × Mem)} {x y : Int32} (hd : decode mt.2.1 pc = .ok (.ixor, 1)) (K : J mt wr (pc + 1) lv (.int (x ^^^ y) :: st) M F) : J mt wr pc lv (.int y :: .int x :: st) M F := by
  intro r M' hF p l e s m args below meth c D ad dA A mc ms hp H locs ls hP hD hS hl
  obtain ⟨hx, hb, hr, hml, hown, hts, hlk, hC⟩ := id hp
  exact lv_ixor hx hb hd (K r M' hF p l e s m args below meth c D ad dA A mc ms hp H locs ls hP hD hS hl)
theorem j_ishl {R : Type} {mt : Mt} {wr : R → Option Value} {pc : Nat} {lv : List (Nat × Value)} {st : List Value} {M : Mem} {F : Option (R × Mem)} {x y : Int32} (hd : decode mt.2.1 pc = .ok (.ishl, 1)) (K : J mt wr (pc + 1) lv (.int (x <<< (y &&& 31)) :: st) M F) : J mt wr pc lv (.int y :: .int x :: st) M F := by
  intro r M' hF p l e s m args below meth c D ad dA A mc ms hp H locs ls hP hD hS hl
  obtain ⟨hx, hb, hr, hml, hown, hts, hlk, hC⟩ := id hp
  exact lv_ishl hx hb hd (K r M' hF p l e s m args below meth c D ad dA A mc ms hp H locs ls hP hD hS hl)
theorem j_ishr {R : Type} {mt : Mt} {wr : R → Option Value} {pc : Nat} {lv : List (Nat × Value)} {st : List Value} {M : Mem} {F : Option (R × Mem)} {x y : Int32} (hd : decode mt.2.1 pc = .ok (.ishr, 1)) (K : J mt wr (pc + 1) lv (.int (x >>> (y &&& 31)) :: st) M F) : J mt wr pc lv (.int y :: .int x :: st) M F := by
  intro r M' hF p l e s m args below meth c D ad dA A mc ms hp H locs ls hP hD hS hl
  obtain ⟨hx, hb, hr, hml, hown, hts, hlk, hC⟩ := id hp
  exact lv_ishr hx hb hd (K r M' hF p l e s m args below meth c D ad dA A mc ms hp H locs ls hP hD hS hl)
theorem j_iushr {R : Type} {mt : Mt} {wr : R → Option Value} {pc : Nat} {lv : List (Nat × Value)} {st : List Value} {M : Mem} {F : Option (R × Mem)} {x y : Int32} (hd : decode mt.2.1 pc = .ok (.iushr, 1)) (K : J mt wr (pc + 1) lv (.int ((x.toUInt32 >>> (y.toUInt32 &&& Int32.toUInt32 31)).toInt32) :: st) M F) : J mt wr pc lv (.int y :: .int x :: st) M F := by
  intro r M' hF p l e s m args below meth c D ad dA A mc ms hp H locs ls hP hD hS hl
  obtain ⟨hx, hb, hr, hml, hown, hts, hlk, hC⟩ := id hp
  exact lv_iushr hx hb hd rfl (K r M' hF p l e s m args below meth c D ad dA A mc ms hp H locs ls hP hD hS hl)
theorem j_ladd {R : Type} {mt : Mt} {wr : R → Option Value} {pc : Nat} {lv : List (Nat × Value)} {st : List Value} {M : Mem} {F : Option (R × Mem)} {x y : Int64} (hd : decode mt.2.1 pc = .ok (.ladd, 1)) (K : J mt wr (pc + 1) lv (.long (x + y) :: st) M F) : J mt wr pc lv (.long y :: .long x :: st) M F := by
  intro r M' hF p l e s m args below meth c D ad dA A mc ms hp H locs ls hP hD hS hl
  obtain ⟨hx, hb, hr, hml, hown, hts, hlk, hC⟩ := id hp
  exact lv_ladd hx hb hd (K r M' hF p l e s m args below meth c D ad dA A mc ms hp H locs ls hP hD hS hl)
theorem j_lsub {R : Type} {mt : Mt} {wr : R → Option Value} {pc : Nat} {lv : List (Nat × Value)} {st : List Value} {M : Mem} {F : Option (R × Mem)} {x y : Int64} (hd : decode mt.2.1 pc = .ok (.lsub, 1)) (K : J mt wr (pc + 1) lv (.long (x - y) :: st) M F) : J mt wr pc lv (.long y :: .long x :: st) M F := by
  intro r M' hF p l e s m args below meth c D ad dA A mc ms hp H locs ls hP hD hS hl
  obtain ⟨hx, hb, hr, hml, hown, hts, hlk, hC⟩ := id hp
  exact lv_lsub hx hb hd (K r M' hF p l e s m args below meth c D ad dA A mc ms hp H locs ls hP hD hS hl)
theorem j_lmul {R : Type} {mt : Mt} {wr : R → Option Value} {pc : Nat} {lv : List (Nat × Value)} {st : List Value} {M : Mem} {F : Option (R × Mem)} {x y : Int64} (hd : decode mt.2.1 pc = .ok (.lmul, 1)) (K : J mt wr (pc + 1) lv (.long (x * y) :: st) M F) : J mt wr pc lv (.long y :: .long x :: st) M F := by
  intro r M' hF p l e s m args below meth c D ad dA A mc ms hp H locs ls hP hD hS hl
  obtain ⟨hx, hb, hr, hml, hown, hts, hlk, hC⟩ := id hp
  exact lv_lmul hx hb hd (K r M' hF p l e s m args below meth c D ad dA A mc ms hp H locs ls hP hD hS hl)
theorem j_land {R : Type} {mt : Mt} {wr : R → Option Value} {pc : Nat} {lv : List (Nat × Value)} {st : List Value} {M : Mem} {F : Option (R × Mem)} {x y : Int64} (hd : decode mt.2.1 pc = .ok (.land, 1)) (K : J mt wr (pc + 1) lv (.long (x &&& y) :: st) M F) : J mt wr pc lv (.long y :: .long x :: st) M F := by
  intro r M' hF p l e s m args below meth c D ad dA A mc ms hp H locs ls hP hD hS hl
  obtain ⟨hx, hb, hr, hml, hown, hts, hlk, hC⟩ := id hp
  exact lv_land hx hb hd (K r M' hF p l e s m args below meth c D ad dA A mc ms hp H locs ls hP hD hS hl)
theorem j_lor {R : Type} {mt : Mt} {wr : R → Option Value} {pc : Nat} {lv : List (Nat × Value)} {st : List Value} {M : Mem} {F : Option (R × Mem)} {x y : Int64} (hd : decode mt.2.1 pc = .ok (.lor, 1)) (K : J mt wr (pc + 1) lv (.long (x ||| y) :: st) M F) : J mt wr pc lv (.long y :: .long x :: st) M F := by
  intro r M' hF p l e s m args below meth c D ad dA A mc ms hp H locs ls hP hD hS hl
  obtain ⟨hx, hb, hr, hml, hown, hts, hlk, hC⟩ := id hp
  exact lv_lor hx hb hd (K r M' hF p l e s m args below meth c D ad dA A mc ms hp H locs ls hP hD hS hl)
theorem j_lxor {R : Type} {mt : Mt} {wr : R → Option Value} {pc : Nat} {lv : List (Nat × Value)} {st : List Value} {M : Mem} {F : Option (R × Mem)} {x y : Int64} (hd : decode mt.2.1 pc = .ok (.lxor, 1)) (K : J mt wr (pc + 1) lv (.long (x ^^^ y) :: st) M F) : J mt wr pc lv (.long y :: .long x :: st) M F := by
  intro r M' hF p l e s m args below meth c D ad dA A mc ms hp H locs ls hP hD hS hl
  obtain ⟨hx, hb, hr, hml, hown, hts, hlk, hC⟩ := id hp
  exact lv_lxor hx hb hd (K r M' hF p l e s m args below meth c D ad dA A mc ms hp H locs ls hP hD hS hl)
theorem j_lshl {R : Type} {mt : Mt} {wr : R → Option Value} {pc : Nat} {lv : List (Nat × Value)} {st : List Value} {M : Mem} {F : Option (R × Mem)} {x : Int64} {y : Int32} (hd : decode mt.2.1 pc = .ok (.lshl, 1)) (K : J mt wr (pc + 1) lv (.long (x <<< (y.toInt64 &&& 63)) :: st) M F) : J mt wr pc lv (.int y :: .long x :: st) M F := by
  intro r M' hF p l e s m args below meth c D ad dA A mc ms hp H locs ls hP hD hS hl
  obtain ⟨hx, hb, hr, hml, hown, hts, hlk, hC⟩ := id hp
  exact lv_lshl hx hb hd rfl (K r M' hF p l e s m args below meth c D ad dA A mc ms hp H locs ls hP hD hS hl)
theorem j_lshr {R : Type} {mt : Mt} {wr : R → Option Value} {pc : Nat} {lv : List (Nat × Value)} {st : List Value} {M : Mem} {F : Option (R × Mem)} {x : Int64} {y : Int32} (hd : decode mt.2.1 pc = .ok (.lshr, 1)) (K : J mt wr (pc + 1) lv (.long (x >>> (y.toInt64 &&& 63)) :: st) M F) : J mt wr pc lv (.int y :: .long x :: st) M F := by
  intro r M' hF p l e s m args below meth c D ad dA A mc ms hp H locs ls hP hD hS hl
  obtain ⟨hx, hb, hr, hml, hown, hts, hlk, hC⟩ := id hp
  exact lv_lshr hx hb hd rfl (K r M' hF p l e s m args below meth c D ad dA A mc ms hp H locs ls hP hD hS hl)
theorem j_lushr {R : Type} {mt : Mt} {wr : R → Option Value} {pc : Nat} {lv : List (Nat × Value)} {st : List Value} {M : Mem} {F : Option (R × Mem)} {x : Int64} {y : Int32} (hd : decode mt.2.1 pc = .ok (.lushr, 1)) (K : J mt wr (pc + 1) lv (.long ((x.toUInt64 >>> (y.toInt64.toUInt64 &&& Int64.toUInt64 63)).toInt64) :: st) M F) : J mt wr pc lv (.int y :: .long x :: st) M F := by
  intro r M' hF p l e s m args below meth c D ad dA A mc ms hp H locs ls hP hD hS hl
  obtain ⟨hx, hb, hr, hml, hown, hts, hlk, hC⟩ := id hp
  exact lv_lushr hx hb hd rfl (K r M' hF p l e s m args below meth c D ad dA A mc ms hp H locs ls hP hD hS hl)
theorem j_lcmp {R : Type} {mt : Mt} {wr : R → Option Value} {pc : Nat} {lv : List (Nat × Value)} {st : List Value} {M : Mem} {F : Option (R × Mem)} {x y : Int64} (hd : decode mt.2.1 pc = .ok (.lcmp, 1)) (K : J mt wr (pc + 1) lv (.int (lg_cmp x y) :: st) M F) : J mt wr pc lv (.long y :: .long x :: st) M F := by
  intro r M' hF p l e s m args below meth c D ad dA A mc ms hp H locs ls hP hD hS hl
  obtain ⟨hx, hb, hr, hml, hown, hts, hlk, hC⟩ := id hp
  exact W.lcmp hx hb hd (K r M' hF p l e s m args below meth c D ad dA A mc ms hp H locs ls hP hD hS hl)
theorem j_i2l {R : Type} {mt : Mt} {wr : R → Option Value} {pc : Nat} {lv : List (Nat × Value)} {st : List Value} {M : Mem} {F : Option (R × Mem)} {x : Int32} (hd : decode mt.2.1 pc = .ok (.i2l, 1)) (K : J mt wr (pc + 1) lv (.long x.toInt64 :: st) M F) : J mt wr pc lv (.int x :: st) M F := by
  intro r M' hF p l e s m args below meth c D ad dA A mc ms hp H locs ls hP hD hS hl
  obtain ⟨hx, hb, hr, hml, hown, hts, hlk, hC⟩ := id hp
  exact lv_i2l hx hb hd rfl (K r M' hF p l e s m args below meth c D ad dA A mc ms hp H locs ls hP hD hS hl)
theorem j_l2i {R : Type} {mt : Mt} {wr : R → Option Value} {pc : Nat} {lv : List (Nat × Value)} {st : List Value} {M : Mem} {F : Option (R × Mem)} {x : Int64} (hd : decode mt.2.1 pc = .ok (.l2i, 1)) (K : J mt wr (pc + 1) lv (.int x.toInt32 :: st) M F) : J mt wr pc lv (.long x :: st) M F := by
  intro r M' hF p l e s m args below meth c D ad dA A mc ms hp H locs ls hP hD hS hl
  obtain ⟨hx, hb, hr, hml, hown, hts, hlk, hC⟩ := id hp
  exact lv_l2i hx hb hd rfl (K r M' hF p l e s m args below meth c D ad dA A mc ms hp H locs ls hP hD hS hl)
theorem j_i2b {R : Type} {mt : Mt} {wr : R → Option Value} {pc : Nat} {lv : List (Nat × Value)} {st : List Value} {M : Mem} {F : Option (R × Mem)} {x : Int32} (hd : decode mt.2.1 pc = .ok (.i2b, 1)) (K : J mt wr (pc + 1) lv (.int x.toInt8.toInt32 :: st) M F) : J mt wr pc lv (.int x :: st) M F := by
  intro r M' hF p l e s m args below meth c D ad dA A mc ms hp H locs ls hP hD hS hl
  obtain ⟨hx, hb, hr, hml, hown, hts, hlk, hC⟩ := id hp
  exact lv_i2b hx hb hd rfl (K r M' hF p l e s m args below meth c D ad dA A mc ms hp H locs ls hP hD hS hl)
theorem j_i2s {R : Type} {mt : Mt} {wr : R → Option Value} {pc : Nat} {lv : List (Nat × Value)} {st : List Value} {M : Mem} {F : Option (R × Mem)} {x : Int32} (hd : decode mt.2.1 pc = .ok (.i2s, 1)) (K : J mt wr (pc + 1) lv (.int x.toInt16.toInt32 :: st) M F) : J mt wr pc lv (.int x :: st) M F := by
  intro r M' hF p l e s m args below meth c D ad dA A mc ms hp H locs ls hP hD hS hl
  obtain ⟨hx, hb, hr, hml, hown, hts, hlk, hC⟩ := id hp
  exact lv_i2s hx hb hd rfl (K r M' hF p l e s m args below meth c D ad dA A mc ms hp H locs ls hP hD hS hl)
theorem j_i2c {R : Type} {mt : Mt} {wr : R → Option Value} {pc : Nat} {lv : List (Nat × Value)} {st : List Value} {M : Mem} {F : Option (R × Mem)} {x : Int32} (hd : decode mt.2.1 pc = .ok (.i2c, 1)) (K : J mt wr (pc + 1) lv (.int (x.toUInt32 % 65536).toInt32 :: st) M F) : J mt wr pc lv (.int x :: st) M F := by
  intro r M' hF p l e s m args below meth c D ad dA A mc ms hp H locs ls hP hD hS hl
  obtain ⟨hx, hb, hr, hml, hown, hts, hlk, hC⟩ := id hp
  exact lv_i2c hx hb hd rfl (K r M' hF p l e s m args below meth c D ad dA A mc ms hp H locs ls hP hD hS hl)
theorem j_dup {R : Type} {mt : Mt} {wr : R → Option Value} {pc : Nat} {lv : List (Nat × Value)} {st : List Value} {M : Mem} {F : Option (R × Mem)} {v : Value} (hd : decode mt.2.1 pc = .ok (.dup, 1)) (hv : v.category = 1) (K : J mt wr (pc + 1) lv (v :: v :: st) M F) : J mt wr pc lv (v :: st) M F := by
  intro r M' hF p l e s m args below meth c D ad dA A mc ms hp H locs ls hP hD hS hl
  obtain ⟨hx, hb, hr, hml, hown, hts, hlk, hC⟩ := id hp
  exact lv_dup hx hb hd ((rv_cat ad v).trans hv) (K r M' hF p l e s m args below meth c D ad dA A mc ms hp H locs ls hP hD hS hl)
theorem j_pop {R : Type} {mt : Mt} {wr : R → Option Value} {pc : Nat} {lv : List (Nat × Value)} {st : List Value} {M : Mem} {F : Option (R × Mem)} {v : Value} (hd : decode mt.2.1 pc = .ok (.pop, 1)) (hv : v.category = 1) (K : J mt wr (pc + 1) lv (st) M F) : J mt wr pc lv (v :: st) M F := by
  intro r M' hF p l e s m args below meth c D ad dA A mc ms hp H locs ls hP hD hS hl
  obtain ⟨hx, hb, hr, hml, hown, hts, hlk, hC⟩ := id hp
  exact lv_pop hx hb hd ((rv_cat ad v).trans hv) (K r M' hF p l e s m args below meth c D ad dA A mc ms hp H locs ls hP hD hS hl)
theorem j_iconst {R : Type} {mt : Mt} {wr : R → Option Value} {pc : Nat} {lv : List (Nat × Value)} {st : List Value} {M : Mem} {F : Option (R × Mem)} {n : Int} {v : Int32} (hd : decode mt.2.1 pc = .ok (.iconst n, 1)) (hv : Int32.ofInt n = v) (K : J mt wr (pc + 1) lv (.int v :: st) M F) : J mt wr pc lv (st) M F := by
  intro r M' hF p l e s m args below meth c D ad dA A mc ms hp H locs ls hP hD hS hl
  obtain ⟨hx, hb, hr, hml, hown, hts, hlk, hC⟩ := id hp
  exact lv_iconst hx hb hd hv (K r M' hF p l e s m args below meth c D ad dA A mc ms hp H locs ls hP hD hS hl)
theorem j_bipush {R : Type} {mt : Mt} {wr : R → Option Value} {pc : Nat} {lv : List (Nat × Value)} {st : List Value} {M : Mem} {F : Option (R × Mem)} {n : Int} {v : Int32} (hd : decode mt.2.1 pc = .ok (.bipush n, 2)) (hv : (Int8.ofInt n).toInt32 = v) (K : J mt wr (pc + 2) lv (.int v :: st) M F) : J mt wr pc lv (st) M F := by
  intro r M' hF p l e s m args below meth c D ad dA A mc ms hp H locs ls hP hD hS hl
  obtain ⟨hx, hb, hr, hml, hown, hts, hlk, hC⟩ := id hp
  exact lv_bipush hx hb hd hv (K r M' hF p l e s m args below meth c D ad dA A mc ms hp H locs ls hP hD hS hl)
theorem j_sipush {R : Type} {mt : Mt} {wr : R → Option Value} {pc : Nat} {lv : List (Nat × Value)} {st : List Value} {M : Mem} {F : Option (R × Mem)} {n : Int} {v : Int32} (hd : decode mt.2.1 pc = .ok (.sipush n, 3)) (hv : (Int16.ofInt n).toInt32 = v) (K : J mt wr (pc + 3) lv (.int v :: st) M F) : J mt wr pc lv (st) M F := by
  intro r M' hF p l e s m args below meth c D ad dA A mc ms hp H locs ls hP hD hS hl
  obtain ⟨hx, hb, hr, hml, hown, hts, hlk, hC⟩ := id hp
  exact lv_sipush hx hb hd hv (K r M' hF p l e s m args below meth c D ad dA A mc ms hp H locs ls hP hD hS hl)
theorem j_lconst {R : Type} {mt : Mt} {wr : R → Option Value} {pc : Nat} {lv : List (Nat × Value)} {st : List Value} {M : Mem} {F : Option (R × Mem)} {n : Fin 2} {v : Int64} (hd : decode mt.2.1 pc = .ok (.lconst n, 1)) (hv : Int64.ofNat (n : Nat) = v) (K : J mt wr (pc + 1) lv (.long v :: st) M F) : J mt wr pc lv (st) M F := by
  intro r M' hF p l e s m args below meth c D ad dA A mc ms hp H locs ls hP hD hS hl
  obtain ⟨hx, hb, hr, hml, hown, hts, hlk, hC⟩ := id hp
  exact lv_lconst hx hb hd hv (K r M' hF p l e s m args below meth c D ad dA A mc ms hp H locs ls hP hD hS hl)
theorem j_idiv {R : Type} {mt : Mt} {wr : R → Option Value} {pc : Nat} {lv : List (Nat × Value)} {st : List Value} {M : Mem} {F : Option (R × Mem)} {x y : Int32} (hd : decode mt.2.1 pc = .ok (.idiv, 1)) (K : ¬ y = 0 → J mt wr (pc + 1) lv (.int (x / y) :: st) M F) : J mt wr pc lv (.int y :: .int x :: st) M (if y = 0 then none else F) := by
  intro r M' hF0
  by_cases hy : y = 0
  · rw [if_pos hy] at hF0; cases hF0
  rw [if_neg hy] at hF0
  revert hF0
  revert r M'
  show J _ _ _ _ _ _ _
  intro r M' hF p l e s m args below meth c D ad dA A mc ms hp H locs ls hP hD hS hl
  obtain ⟨hx, hb, hr, hml, hown, hts, hlk, hC⟩ := id hp
  exact lv_idiv hx hb hd hy ((K hy) r M' hF p l e s m args below meth c D ad dA A mc ms hp H locs ls hP hD hS hl)
theorem j_irem {R : Type} {mt : Mt} {wr : R → Option Value} {pc : Nat} {lv : List (Nat × Value)} {st : List Value} {M : Mem} {F : Option (R × Mem)} {x y : Int32} (hd : decode mt.2.1 pc = .ok (.irem, 1)) (K : ¬ y = 0 → J mt wr (pc + 1) lv (.int (x - x / y * y) :: st) M F) : J mt wr pc lv (.int y :: .int x :: st) M (if y = 0 then none else F) := by
  intro r M' hF0
  by_cases hy : y = 0
  · rw [if_pos hy] at hF0; cases hF0
  rw [if_neg hy] at hF0
  revert hF0
  revert r M'
  show J _ _ _ _ _ _ _
  intro r M' hF p l e s m args below meth c D ad dA A mc ms hp H locs ls hP hD hS hl
  obtain ⟨hx, hb, hr, hml, hown, hts, hlk, hC⟩ := id hp
  exact lv_irem hx hb hd hy ((K hy) r M' hF p l e s m args below meth c D ad dA A mc ms hp H locs ls hP hD hS hl)
theorem j_ldc {R : Type} {mt : Mt} {wr : R → Option Value} {pc : Nat} {lv : List (Nat × Value)} {st : List Value} {M : Mem} {F : Option (R × Mem)} {own : String} {i : Nat} {v : Int32} (hd : decode mt.2.1 pc = .ok (.ldc i, 2)) (hw : Cond.constant mt.1 i v ∈ tbl) (K : J mt wr (pc + 2) lv (.int v :: st) M F) : J mt wr pc lv st M F := by
  intro r M' hF p l e s m args below meth c D ad dA A mc ms hp H locs ls hP hD hS hl
  obtain ⟨hx, hb, hr, hml, hown, hts, hlk, hC⟩ := id hp
  exact lv_ldc hx hb hown (hts _ hw) hd (K r M' hF p l e s m args below meth c D ad dA A mc ms hp H locs ls hP hD hS hl)
theorem j_ldcw {R : Type} {mt : Mt} {wr : R → Option Value} {pc : Nat} {lv : List (Nat × Value)} {st : List Value} {M : Mem} {F : Option (R × Mem)} {own : String} {i : Nat} {v : Int32} (hd : decode mt.2.1 pc = .ok (.ldc_w i, 3)) (hw : Cond.constant mt.1 i v ∈ tbl) (K : J mt wr (pc + 3) lv (.int v :: st) M F) : J mt wr pc lv st M F := by
  intro r M' hF p l e s m args below meth c D ad dA A mc ms hp H locs ls hP hD hS hl
  obtain ⟨hx, hb, hr, hml, hown, hts, hlk, hC⟩ := id hp
  exact lv_ldcw hx hb hown (hts _ hw) hd (K r M' hF p l e s m args below meth c D ad dA A mc ms hp H locs ls hP hD hS hl)
theorem j_ldc2 {R : Type} {mt : Mt} {wr : R → Option Value} {pc : Nat} {lv : List (Nat × Value)} {st : List Value} {M : Mem} {F : Option (R × Mem)} {i : Nat} {v : Int64} (hd : decode mt.2.1 pc = .ok (.ldc2_w i, 3)) (hw : Cond.constantLong mt.1 i v ∈ tbl) (K : J mt wr (pc + 3) lv (.long v :: st) M F) : J mt wr pc lv st M F := by
  intro r M' hF p l e s m args below meth c D ad dA A mc ms hp H locs ls hP hD hS hl
  obtain ⟨hx, hb, hr, hml, hown, hts, hlk, hC⟩ := id hp
  exact lv_ldc2 hx hb hown (hts _ hw) hd (K r M' hF p l e s m args below meth c D ad dA A mc ms hp H locs ls hP hD hS hl)
theorem j_iload_n {R : Type} {mt : Mt} {wr : R → Option Value} {pc : Nat} {lv : List (Nat × Value)} {st : List Value} {M : Mem} {F : Option (R × Mem)} {k : Fin 4} {i q : Nat} {x : Int32} (hd : decode mt.2.1 pc = .ok (.iload_n k, 1)) (hi : (k : Nat) = i) (hq : lv[q]? = some (i, .int x)) (K : J mt wr (pc + 1) lv (.int x :: st) M F) : J mt wr pc lv st M F := by
  intro r M' hF p l e s m args below meth c D ad dA A mc ms hp H locs ls hP hD hS hl
  obtain ⟨hx, hb, hr, hml, hown, hts, hlk, hC⟩ := id hp
  exact lv_iload_n hx hb hd hi (lv_at hl q (lvp_get hq)) (K r M' hF p l e s m args below meth c D ad dA A mc ms hp H locs ls hP hD hS hl)
theorem j_iload {R : Type} {mt : Mt} {wr : R → Option Value} {pc : Nat} {lv : List (Nat × Value)} {st : List Value} {M : Mem} {F : Option (R × Mem)} {i q : Nat} {x : Int32} (hd : decode mt.2.1 pc = .ok (.iload i, 2)) (hq : lv[q]? = some (i, .int x)) (K : J mt wr (pc + 2) lv (.int x :: st) M F) : J mt wr pc lv st M F := by
  intro r M' hF p l e s m args below meth c D ad dA A mc ms hp H locs ls hP hD hS hl
  obtain ⟨hx, hb, hr, hml, hown, hts, hlk, hC⟩ := id hp
  exact lv_iload hx hb hd (lv_at hl q (lvp_get hq)) (K r M' hF p l e s m args below meth c D ad dA A mc ms hp H locs ls hP hD hS hl)
theorem j_lload_n {R : Type} {mt : Mt} {wr : R → Option Value} {pc : Nat} {lv : List (Nat × Value)} {st : List Value} {M : Mem} {F : Option (R × Mem)} {k : Fin 4} {i q : Nat} {x : Int64} (hd : decode mt.2.1 pc = .ok (.lload_n k, 1)) (hi : (k : Nat) = i) (hq : lv[q]? = some (i, .long x)) (K : J mt wr (pc + 1) lv (.long x :: st) M F) : J mt wr pc lv st M F := by
  intro r M' hF p l e s m args below meth c D ad dA A mc ms hp H locs ls hP hD hS hl
  obtain ⟨hx, hb, hr, hml, hown, hts, hlk, hC⟩ := id hp
  exact lv_lload_n hx hb hd hi (lv_at hl q (lvp_get hq)) (K r M' hF p l e s m args below meth c D ad dA A mc ms hp H locs ls hP hD hS hl)
theorem j_lload {R : Type} {mt : Mt} {wr : R → Option Value} {pc : Nat} {lv : List (Nat × Value)} {st : List Value} {M : Mem} {F : Option (R × Mem)} {i q : Nat} {x : Int64} (hd : decode mt.2.1 pc = .ok (.lload i, 2)) (hq : lv[q]? = some (i, .long x)) (K : J mt wr (pc + 2) lv (.long x :: st) M F) : J mt wr pc lv st M F := by
  intro r M' hF p l e s m args below meth c D ad dA A mc ms hp H locs ls hP hD hS hl
  obtain ⟨hx, hb, hr, hml, hown, hts, hlk, hC⟩ := id hp
  exact lv_lload hx hb hd (lv_at hl q (lvp_get hq)) (K r M' hF p l e s m args below meth c D ad dA A mc ms hp H locs ls hP hD hS hl)
theorem j_aload_n {R : Type} {mt : Mt} {wr : R → Option Value} {pc : Nat} {lv : List (Nat × Value)} {st : List Value} {M : Mem} {F : Option (R × Mem)} {k : Fin 4} {i q : Nat} {x : Nat} (hd : decode mt.2.1 pc = .ok (.aload_n k, 1)) (hi : (k : Nat) = i) (hq : lv[q]? = some (i, .ref x)) (K : J mt wr (pc + 1) lv (.ref x :: st) M F) : J mt wr pc lv st M F := by
  intro r M' hF p l e s m args below meth c D ad dA A mc ms hp H locs ls hP hD hS hl
  obtain ⟨hx, hb, hr, hml, hown, hts, hlk, hC⟩ := id hp
  exact lv_aload_n hx hb hd hi (lv_at hl q (lvp_get hq)) (K r M' hF p l e s m args below meth c D ad dA A mc ms hp H locs ls hP hD hS hl)
theorem j_aload {R : Type} {mt : Mt} {wr : R → Option Value} {pc : Nat} {lv : List (Nat × Value)} {st : List Value} {M : Mem} {F : Option (R × Mem)} {i q : Nat} {x : Nat} (hd : decode mt.2.1 pc = .ok (.aload i, 2)) (hq : lv[q]? = some (i, .ref x)) (K : J mt wr (pc + 2) lv (.ref x :: st) M F) : J mt wr pc lv st M F := by
  intro r M' hF p l e s m args below meth c D ad dA A mc ms hp H locs ls hP hD hS hl
  obtain ⟨hx, hb, hr, hml, hown, hts, hlk, hC⟩ := id hp
  exact lv_aload hx hb hd (lv_at hl q (lvp_get hq)) (K r M' hF p l e s m args below meth c D ad dA A mc ms hp H locs ls hP hD hS hl)
theorem j_istore_n {R : Type} {mt : Mt} {wr : R → Option Value} {pc : Nat} {lv : List (Nat × Value)} {st : List Value} {M : Mem} {F : Option (R × Mem)} {k : Fin 4} {i : Nat} {x : Int32} {lv' : List (Nat × Value)} (hd : decode mt.2.1 pc = .ok (.istore_n k, 1)) (hi : (k : Nat) = i) (hn : i < mt.2.2.1) (h : (i, Value.int x) :: lv.filter (fun q => !(q.1 == i) && !(q.1 + 1 == i && q.2.category == 2)) = lv') (K : J mt wr (pc + 1) lv' st M F) : J mt wr pc lv (.int x :: st) M F := by
  intro r M' hF p l e s m args below meth c D ad dA A mc ms hp H locs ls hP hD hS hl
  obtain ⟨hx, hb, hr, hml, hown, hts, hlk, hC⟩ := id hp
  exact lv_istore_n hx hb hd hi hl hn (lvp_filter h) (fun ls2 hl2 => K r M' hF p l e s m args below meth c D ad dA A mc ms hp H locs ls2 hP hD hS hl2)
theorem j_istore {R : Type} {mt : Mt} {wr : R → Option Value} {pc : Nat} {lv : List (Nat × Value)} {st : List Value} {M : Mem} {F : Option (R × Mem)} {i : Nat} {x : Int32} {lv' : List (Nat × Value)} (hd : decode mt.2.1 pc = .ok (.istore i, 2)) (hn : i < mt.2.2.1) (h : (i, Value.int x) :: lv.filter (fun q => !(q.1 == i) && !(q.1 + 1 == i && q.2.category == 2)) = lv') (K : J mt wr (pc + 2) lv' st M F) : J mt wr pc lv (.int x :: st) M F := by
  intro r M' hF p l e s m args below meth c D ad dA A mc ms hp H locs ls hP hD hS hl
  obtain ⟨hx, hb, hr, hml, hown, hts, hlk, hC⟩ := id hp
  exact lv_istore hx hb hd hl hn (lvp_filter h) (fun ls2 hl2 => K r M' hF p l e s m args below meth c D ad dA A mc ms hp H locs ls2 hP hD hS hl2)
theorem j_lstore_n {R : Type} {mt : Mt} {wr : R → Option Value} {pc : Nat} {lv : List (Nat × Value)} {st : List Value} {M : Mem} {F : Option (R × Mem)} {k : Fin 4} {i : Nat} {x : Int64} {lv' : List (Nat × Value)} (hd : decode mt.2.1 pc = .ok (.lstore_n k, 1)) (hi : (k : Nat) = i) (hn : i + 1 < mt.2.2.1) (h : (i, Value.long x) :: lv.filter (fun q => !(q.1 == i) && (!(q.1 == i + 1) && !(q.1 + 1 == i && q.2.category == 2))) = lv') (K : J mt wr (pc + 1) lv' st M F) : J mt wr pc lv (.long x :: st) M F := by
  intro r M' hF p l e s m args below meth c D ad dA A mc ms hp H locs ls hP hD hS hl
  obtain ⟨hx, hb, hr, hml, hown, hts, hlk, hC⟩ := id hp
  exact lv_lstore_n hx hb hd hi hl hn (lvp_filter2 (fun q => by simp [rvp, rv_cat]) h) (fun ls2 hl2 => K r M' hF p l e s m args below meth c D ad dA A mc ms hp H locs ls2 hP hD hS hl2)
theorem j_lstore {R : Type} {mt : Mt} {wr : R → Option Value} {pc : Nat} {lv : List (Nat × Value)} {st : List Value} {M : Mem} {F : Option (R × Mem)} {i : Nat} {x : Int64} {lv' : List (Nat × Value)} (hd : decode mt.2.1 pc = .ok (.lstore i, 2)) (hn : i + 1 < mt.2.2.1) (h : (i, Value.long x) :: lv.filter (fun q => !(q.1 == i) && (!(q.1 == i + 1) && !(q.1 + 1 == i && q.2.category == 2))) = lv') (K : J mt wr (pc + 2) lv' st M F) : J mt wr pc lv (.long x :: st) M F := by
  intro r M' hF p l e s m args below meth c D ad dA A mc ms hp H locs ls hP hD hS hl
  obtain ⟨hx, hb, hr, hml, hown, hts, hlk, hC⟩ := id hp
  exact lv_lstore hx hb hd hl hn (lvp_filter2 (fun q => by simp [rvp, rv_cat]) h) (fun ls2 hl2 => K r M' hF p l e s m args below meth c D ad dA A mc ms hp H locs ls2 hP hD hS hl2)
theorem j_astore_n {R : Type} {mt : Mt} {wr : R → Option Value} {pc : Nat} {lv : List (Nat × Value)} {st : List Value} {M : Mem} {F : Option (R × Mem)} {k : Fin 4} {i : Nat} {x : Nat} {lv' : List (Nat × Value)} (hd : decode mt.2.1 pc = .ok (.astore_n k, 1)) (hi : (k : Nat) = i) (hn : i < mt.2.2.1) (h : (i, Value.ref x) :: lv.filter (fun q => !(q.1 == i) && !(q.1 + 1 == i && q.2.category == 2)) = lv') (K : J mt wr (pc + 1) lv' st M F) : J mt wr pc lv (.ref x :: st) M F := by
  intro r M' hF p l e s m args below meth c D ad dA A mc ms hp H locs ls hP hD hS hl
  obtain ⟨hx, hb, hr, hml, hown, hts, hlk, hC⟩ := id hp
  exact lv_astore_n hx hb hd hi hl hn (lvp_filter h) (fun ls2 hl2 => K r M' hF p l e s m args below meth c D ad dA A mc ms hp H locs ls2 hP hD hS hl2)
theorem j_astore {R : Type} {mt : Mt} {wr : R → Option Value} {pc : Nat} {lv : List (Nat × Value)} {st : List Value} {M : Mem} {F : Option (R × Mem)} {i : Nat} {x : Nat} {lv' : List (Nat × Value)} (hd : decode mt.2.1 pc = .ok (.astore i, 2)) (hn : i < mt.2.2.1) (h : (i, Value.ref x) :: lv.filter (fun q => !(q.1 == i) && !(q.1 + 1 == i && q.2.category == 2)) = lv') (K : J mt wr (pc + 2) lv' st M F) : J mt wr pc lv (.ref x :: st) M F := by
  intro r M' hF p l e s m args below meth c D ad dA A mc ms hp H locs ls hP hD hS hl
  obtain ⟨hx, hb, hr, hml, hown, hts, hlk, hC⟩ := id hp
  exact lv_astore hx hb hd hl hn (lvp_filter h) (fun ls2 hl2 => K r M' hF p l e s m args below meth c D ad dA A mc ms hp H locs ls2 hP hD hS hl2)
theorem j_iinc {R : Type} {mt : Mt} {wr : R → Option Value} {pc : Nat} {lv : List (Nat × Value)} {st : List Value} {M : Mem} {F : Option (R × Mem)} {i q : Nat} {n : Int} {x v : Int32} {lv' : List (Nat × Value)} (hd : decode mt.2.1 pc = .ok (.iinc i n, 3)) (hq : lv[q]? = some (i, .int x)) (hv : x + Int32.ofInt n = v) (hn : i < mt.2.2.1) (h : (i, Value.int v) :: lv.filter (fun q => !(q.1 == i) && !(q.1 + 1 == i && q.2.category == 2)) = lv') (K : J mt wr (pc + 3) lv' st M F) : J mt wr pc lv st M F := by
  intro r M' hF p l e s m args below meth c D ad dA A mc ms hp H locs ls hP hD hS hl
  obtain ⟨hx, hb, hr, hml, hown, hts, hlk, hC⟩ := id hp
  exact lv_iinc hx hb hd hl (lvp_get hq) hv hn (lvp_filter h) (fun ls2 hl2 => K r M' hF p l e s m args below meth c D ad dA A mc ms hp H locs ls2 hP hD hS hl2)
theorem j_icmp_eq {R : Type} {mt : Mt} {wr : R → Option Value} {pc : Nat} {lv : List (Nat × Value)} {st : List Value} {M : Mem} {F G : Option (R × Mem)} {x y : Int32} {off : Int} {tgt : Nat} (hd : decode mt.2.1 pc = .ok (.if_icmp .eq off, 3)) (ht : (pc : Int) + off = (tgt : Int)) (K : x = y → J mt wr tgt lv st M F) (L : ¬ (x = y) → J mt wr (pc + 3) lv st M G) : J mt wr pc lv (.int y :: .int x :: st) M (if x = y then F else G) := by
  intro r M' hF p l e s m args below meth c D ad dA A mc ms hp H locs ls hP hD hS hl
  obtain ⟨hx, hb, hr, hml, hown, hts, hlk, hC⟩ := id hp
  refine lv_icmp_eq hx hb hd ht (fun h => ?_) (fun h => ?_)
  · exact K h r M' ((if_pos h).symm.trans hF) p l e s m args below meth c D ad dA A mc ms hp H locs ls hP hD hS hl
  · exact L h r M' ((if_neg h).symm.trans hF) p l e s m args below meth c D ad dA A mc ms hp H locs ls hP hD hS hl
theorem j_if_eq {R : Type} {mt : Mt} {wr : R → Option Value} {pc : Nat} {lv : List (Nat × Value)} {st : List Value} {M : Mem} {F G : Option (R × Mem)} {x : Int32} {off : Int} {tgt : Nat} (hd : decode mt.2.1 pc = .ok (.ifCond .eq off, 3)) (ht : (pc : Int) + off = (tgt : Int)) (K : x = 0 → J mt wr tgt lv st M F) (L : ¬ (x = 0) → J mt wr (pc + 3) lv st M G) : J mt wr pc lv (.int x :: st) M (if x = 0 then F else G) := by
  intro r M' hF p l e s m args below meth c D ad dA A mc ms hp H locs ls hP hD hS hl
  obtain ⟨hx, hb, hr, hml, hown, hts, hlk, hC⟩ := id hp
  refine lv_if_eq hx hb hd ht (fun h => ?_) (fun h => ?_)
  · exact K h r M' ((if_pos h).symm.trans hF) p l e s m args below meth c D ad dA A mc ms hp H locs ls hP hD hS hl
  · exact L h r M' ((if_neg h).symm.trans hF) p l e s m args below meth c D ad dA A mc ms hp H locs ls hP hD hS hl
theorem j_icmp_lt {R : Type} {mt : Mt} {wr : R → Option Value} {pc : Nat} {lv : List (Nat × Value)} {st : List Value} {M : Mem} {F G : Option (R × Mem)} {x y : Int32} {off : Int} {tgt : Nat} (hd : decode mt.2.1 pc = .ok (.if_icmp .lt off, 3)) (ht : (pc : Int) + off = (tgt : Int)) (K : x < y → J mt wr tgt lv st M F) (L : ¬ (x < y) → J mt wr (pc + 3) lv st M G) : J mt wr pc lv (.int y :: .int x :: st) M (if x < y then F else G) := by
  intro r M' hF p l e s m args below meth c D ad dA A mc ms hp H locs ls hP hD hS hl
  obtain ⟨hx, hb, hr, hml, hown, hts, hlk, hC⟩ := id hp
  refine lv_icmp_lt hx hb hd ht (fun h => ?_) (fun h => ?_)
  · exact K h r M' ((if_pos h).symm.trans hF) p l e s m args below meth c D ad dA A mc ms hp H locs ls hP hD hS hl
  · exact L h r M' ((if_neg h).symm.trans hF) p l e s m args below meth c D ad dA A mc ms hp H locs ls hP hD hS hl
theorem j_if_lt {R : Type} {mt : Mt} {wr : R → Option Value} {pc : Nat} {lv : List (Nat × Value)} {st : List Value} {M : Mem} {F G : Option (R × Mem)} {x : Int32} {off : Int} {tgt : Nat} (hd : decode mt.2.1 pc = .ok (.ifCond .lt off, 3)) (ht : (pc : Int) + off = (tgt : Int)) (K : x < 0 → J mt wr tgt lv st M F) (L : ¬ (x < 0) → J mt wr (pc + 3) lv st M G) : J mt wr pc lv (.int x :: st) M (if x < 0 then F else G) := by
  intro r M' hF p l e s m args below meth c D ad dA A mc ms hp H locs ls hP hD hS hl
  obtain ⟨hx, hb, hr, hml, hown, hts, hlk, hC⟩ := id hp
  refine lv_if_lt hx hb hd ht (fun h => ?_) (fun h => ?_)
  · exact K h r M' ((if_pos h).symm.trans hF) p l e s m args below meth c D ad dA A mc ms hp H locs ls hP hD hS hl
  · exact L h r M' ((if_neg h).symm.trans hF) p l e s m args below meth c D ad dA A mc ms hp H locs ls hP hD hS hl
theorem j_icmp_ge {R : Type} {mt : Mt} {wr : R → Option Value} {pc : Nat} {lv : List (Nat × Value)} {st : List Value} {M : Mem} {F G : Option (R × Mem)} {x y : Int32} {off : Int} {tgt : Nat} (hd : decode mt.2.1 pc = .ok (.if_icmp .ge off, 3)) (ht : (pc : Int) + off = (tgt : Int)) (K : y ≤ x → J mt wr tgt lv st M F) (L : ¬ (y ≤ x) → J mt wr (pc + 3) lv st M G) : J mt wr pc lv (.int y :: .int x :: st) M (if y ≤ x then F else G) := by
  intro r M' hF p l e s m args below meth c D ad dA A mc ms hp H locs ls hP hD hS hl
  obtain ⟨hx, hb, hr, hml, hown, hts, hlk, hC⟩ := id hp
  refine lv_icmp_ge hx hb hd ht (fun h => ?_) (fun h => ?_)
  · exact K h r M' ((if_pos h).symm.trans hF) p l e s m args below meth c D ad dA A mc ms hp H locs ls hP hD hS hl
  · exact L h r M' ((if_neg h).symm.trans hF) p l e s m args below meth c D ad dA A mc ms hp H locs ls hP hD hS hl
theorem j_if_ge {R : Type} {mt : Mt} {wr : R → Option Value} {pc : Nat} {lv : List (Nat × Value)} {st : List Value} {M : Mem} {F G : Option (R × Mem)} {x : Int32} {off : Int} {tgt : Nat} (hd : decode mt.2.1 pc = .ok (.ifCond .ge off, 3)) (ht : (pc : Int) + off = (tgt : Int)) (K : 0 ≤ x → J mt wr tgt lv st M F) (L : ¬ (0 ≤ x) → J mt wr (pc + 3) lv st M G) : J mt wr pc lv (.int x :: st) M (if 0 ≤ x then F else G) := by
  intro r M' hF p l e s m args below meth c D ad dA A mc ms hp H locs ls hP hD hS hl
  obtain ⟨hx, hb, hr, hml, hown, hts, hlk, hC⟩ := id hp
  refine lv_if_ge hx hb hd ht (fun h => ?_) (fun h => ?_)
  · exact K h r M' ((if_pos h).symm.trans hF) p l e s m args below meth c D ad dA A mc ms hp H locs ls hP hD hS hl
  · exact L h r M' ((if_neg h).symm.trans hF) p l e s m args below meth c D ad dA A mc ms hp H locs ls hP hD hS hl
theorem j_icmp_gt {R : Type} {mt : Mt} {wr : R → Option Value} {pc : Nat} {lv : List (Nat × Value)} {st : List Value} {M : Mem} {F G : Option (R × Mem)} {x y : Int32} {off : Int} {tgt : Nat} (hd : decode mt.2.1 pc = .ok (.if_icmp .gt off, 3)) (ht : (pc : Int) + off = (tgt : Int)) (K : y < x → J mt wr tgt lv st M F) (L : ¬ (y < x) → J mt wr (pc + 3) lv st M G) : J mt wr pc lv (.int y :: .int x :: st) M (if y < x then F else G) := by
  intro r M' hF p l e s m args below meth c D ad dA A mc ms hp H locs ls hP hD hS hl
  obtain ⟨hx, hb, hr, hml, hown, hts, hlk, hC⟩ := id hp
  refine lv_icmp_gt hx hb hd ht (fun h => ?_) (fun h => ?_)
  · exact K h r M' ((if_pos h).symm.trans hF) p l e s m args below meth c D ad dA A mc ms hp H locs ls hP hD hS hl
  · exact L h r M' ((if_neg h).symm.trans hF) p l e s m args below meth c D ad dA A mc ms hp H locs ls hP hD hS hl
theorem j_if_gt {R : Type} {mt : Mt} {wr : R → Option Value} {pc : Nat} {lv : List (Nat × Value)} {st : List Value} {M : Mem} {F G : Option (R × Mem)} {x : Int32} {off : Int} {tgt : Nat} (hd : decode mt.2.1 pc = .ok (.ifCond .gt off, 3)) (ht : (pc : Int) + off = (tgt : Int)) (K : 0 < x → J mt wr tgt lv st M F) (L : ¬ (0 < x) → J mt wr (pc + 3) lv st M G) : J mt wr pc lv (.int x :: st) M (if 0 < x then F else G) := by
  intro r M' hF p l e s m args below meth c D ad dA A mc ms hp H locs ls hP hD hS hl
  obtain ⟨hx, hb, hr, hml, hown, hts, hlk, hC⟩ := id hp
  refine lv_if_gt hx hb hd ht (fun h => ?_) (fun h => ?_)
  · exact K h r M' ((if_pos h).symm.trans hF) p l e s m args below meth c D ad dA A mc ms hp H locs ls hP hD hS hl
  · exact L h r M' ((if_neg h).symm.trans hF) p l e s m args below meth c D ad dA A mc ms hp H locs ls hP hD hS hl
theorem j_icmp_le {R : Type} {mt : Mt} {wr : R → Option Value} {pc : Nat} {lv : List (Nat × Value)} {st : List Value} {M : Mem} {F G : Option (R × Mem)} {x y : Int32} {off : Int} {tgt : Nat} (hd : decode mt.2.1 pc = .ok (.if_icmp .le off, 3)) (ht : (pc : Int) + off = (tgt : Int)) (K : x ≤ y → J mt wr tgt lv st M F) (L : ¬ (x ≤ y) → J mt wr (pc + 3) lv st M G) : J mt wr pc lv (.int y :: .int x :: st) M (if x ≤ y then F else G) := by
  intro r M' hF p l e s m args below meth c D ad dA A mc ms hp H locs ls hP hD hS hl
  obtain ⟨hx, hb, hr, hml, hown, hts, hlk, hC⟩ := id hp
  refine lv_icmp_le hx hb hd ht (fun h => ?_) (fun h => ?_)
  · exact K h r M' ((if_pos h).symm.trans hF) p l e s m args below meth c D ad dA A mc ms hp H locs ls hP hD hS hl
  · exact L h r M' ((if_neg h).symm.trans hF) p l e s m args below meth c D ad dA A mc ms hp H locs ls hP hD hS hl
theorem j_if_le {R : Type} {mt : Mt} {wr : R → Option Value} {pc : Nat} {lv : List (Nat × Value)} {st : List Value} {M : Mem} {F G : Option (R × Mem)} {x : Int32} {off : Int} {tgt : Nat} (hd : decode mt.2.1 pc = .ok (.ifCond .le off, 3)) (ht : (pc : Int) + off = (tgt : Int)) (K : x ≤ 0 → J mt wr tgt lv st M F) (L : ¬ (x ≤ 0) → J mt wr (pc + 3) lv st M G) : J mt wr pc lv (.int x :: st) M (if x ≤ 0 then F else G) := by
  intro r M' hF p l e s m args below meth c D ad dA A mc ms hp H locs ls hP hD hS hl
  obtain ⟨hx, hb, hr, hml, hown, hts, hlk, hC⟩ := id hp
  refine lv_if_le hx hb hd ht (fun h => ?_) (fun h => ?_)
  · exact K h r M' ((if_pos h).symm.trans hF) p l e s m args below meth c D ad dA A mc ms hp H locs ls hP hD hS hl
  · exact L h r M' ((if_neg h).symm.trans hF) p l e s m args below meth c D ad dA A mc ms hp H locs ls hP hD hS hl
theorem j_icmp_ne {R : Type} {mt : Mt} {wr : R → Option Value} {pc : Nat} {lv : List (Nat × Value)} {st : List Value} {M : Mem} {F G : Option (R × Mem)} {x y : Int32} {off : Int} {tgt : Nat} (hd : decode mt.2.1 pc = .ok (.if_icmp .ne off, 3)) (ht : (pc : Int) + off = (tgt : Int)) (K : ¬ (x = y) → J mt wr tgt lv st M G) (L : x = y → J mt wr (pc + 3) lv st M F) : J mt wr pc lv (.int y :: .int x :: st) M (if x = y then F else G) := by
  intro r M' hF p l e s m args below meth c D ad dA A mc ms hp H locs ls hP hD hS hl
  obtain ⟨hx, hb, hr, hml, hown, hts, hlk, hC⟩ := id hp
  refine lv_icmp_ne hx hb hd ht (fun h => ?_) (fun h => ?_)
  · exact K h r M' ((if_neg h).symm.trans hF) p l e s m args below meth c D ad dA A mc ms hp H locs ls hP hD hS hl
  · exact L h r M' ((if_pos h).symm.trans hF) p l e s m args below meth c D ad dA A mc ms hp H locs ls hP hD hS hl
theorem j_if_ne {R : Type} {mt : Mt} {wr : R → Option Value} {pc : Nat} {lv : List (Nat × Value)} {st : List Value} {M : Mem} {F G : Option (R × Mem)} {x : Int32} {off : Int} {tgt : Nat} (hd : decode mt.2.1 pc = .ok (.ifCond .ne off, 3)) (ht : (pc : Int) + off = (tgt : Int)) (K : ¬ (x = 0) → J mt wr tgt lv st M G) (L : x = 0 → J mt wr (pc + 3) lv st M F) : J mt wr pc lv (.int x :: st) M (if x = 0 then F else G) := by
  intro r M' hF p l e s m args below meth c D ad dA A mc ms hp H locs ls hP hD hS hl
  obtain ⟨hx, hb, hr, hml, hown, hts, hlk, hC⟩ := id hp
  refine lv_if_ne hx hb hd ht (fun h => ?_) (fun h => ?_)
  · exact K h r M' ((if_neg h).symm.trans hF) p l e s m args below meth c D ad dA A mc ms hp H locs ls hP hD hS hl
  · exact L h r M' ((if_pos h).symm.trans hF) p l e s m args below meth c D ad dA A mc ms hp H locs ls hP hD hS hl
theorem j_goto {R : Type} {mt : Mt} {wr : R → Option Value} {pc : Nat} {lv : List (Nat × Value)} {st : List Value} {M : Mem} {F : Option (R × Mem)} {off : Int} {tgt : Nat} (hd : decode mt.2.1 pc = .ok (.goto off, 3)) (ht : (pc : Int) + off = (tgt : Int)) (K : J mt wr tgt lv st M F) : J mt wr pc lv st M F := by
  intro r M' hF p l e s m args below meth c D ad dA A mc ms hp H locs ls hP hD hS hl
  obtain ⟨hx, hb, hr, hml, hown, hts, hlk, hC⟩ := id hp
  exact lv_goto hx hb hd ht (K r M' hF p l e s m args below meth c D ad dA A mc ms hp H locs ls hP hD hS hl)
theorem j_tableIn {R : Type} {mt : Mt} {wr : R → Option Value} {pc : Nat} {lv : List (Nat × Value)} {st : List Value} {M : Mem} {F : Option (R × Mem)} {dflt lo hi : Int} {offs : Array Int} {len : Nat} {x : Int32} {off : Int} {tgt : Nat} (hd : decode mt.2.1 pc = .ok (.tableswitch dflt lo hi offs, len)) (v : Int32) (hv : x = v) (h1 : ¬ v.toInt < lo) (h2 : ¬ hi < v.toInt) (ho : offs[(v.toInt - lo).toNat]? = some off) (ht : (pc : Int) + off = (tgt : Int)) (K : J mt wr tgt lv st M F) : J mt wr pc lv (.int x :: st) M F := by
  subst hv
  intro r M' hF p l e s m args below meth c D ad dA A mc ms hp H locs ls hP hD hS hl
  obtain ⟨hx, hb, hr, hml, hown, hts, hlk, hC⟩ := id hp
  exact lv_tableIn hx hb hd h1 h2 ho ht (K r M' hF p l e s m args below meth c D ad dA A mc ms hp H locs ls hP hD hS hl)
theorem j_tableOut {R : Type} {mt : Mt} {wr : R → Option Value} {pc : Nat} {lv : List (Nat × Value)} {st : List Value} {M : Mem} {F : Option (R × Mem)} {dflt lo hi : Int} {offs : Array Int} {len : Nat} {x : Int32} {tgt : Nat} (hd : decode mt.2.1 pc = .ok (.tableswitch dflt lo hi offs, len)) (h : x.toInt < lo ∨ hi < x.toInt) (ht : (pc : Int) + dflt = (tgt : Int)) (K : J mt wr tgt lv st M F) : J mt wr pc lv (.int x :: st) M F := by
  intro r M' hF p l e s m args below meth c D ad dA A mc ms hp H locs ls hP hD hS hl
  obtain ⟨hx, hb, hr, hml, hown, hts, hlk, hC⟩ := id hp
  exact lv_tableOut hx hb hd h ht (K r M' hF p l e s m args below meth c D ad dA A mc ms hp H locs ls hP hD hS hl)
def nm {α β : Type} (e : α) (f : α → β) : β := f e
def gd {α : Type} (i : Int32) (n : Nat) (F : Option α) : Option α := if i < 0 ∨ n ≤ i.toNatClampNeg then none else F
def bd {α β : Type} (x : Option (α × Mem)) (f : α → Mem → Option β) : Option β := match x with
  | some q => f q.1 q.2
  | none => none
theorem j_none {R : Type} {mt : Mt} {wr : R → Option Value} {pc : Nat} {lv : List (Nat × Value)} {st : List Value} {M : Mem} : J mt wr pc lv st M none := fun r M' hF => by cases hF
theorem j_nm {R α : Type} {mt : Mt} {wr : R → Option Value} {pc : Nat} {lv : List (Nat × Value)} {st : List Value} {M : Mem} {e : α} {f : α → Option (R × Mem)} (K : J mt wr pc lv st M (f e)) : J mt wr pc lv st M (nm e f) := K
theorem j_nmi {R : Type} {mt : Mt} {wr : R → Option Value} {pc : Nat} {lv : List (Nat × Value)} {st : List Value} {M : Mem} {e : Int32} {f : Int32 → Option (R × Mem)} (K : ∀ x : Int32, J mt wr pc lv (.int x :: st) M (f x)) : J mt wr pc lv (.int e :: st) M (nm e f) := K e
theorem j_nml {R : Type} {mt : Mt} {wr : R → Option Value} {pc : Nat} {lv : List (Nat × Value)} {st : List Value} {M : Mem} {e : Int64} {f : Int64 → Option (R × Mem)} (K : ∀ x : Int64, J mt wr pc lv (.long x :: st) M (f x)) : J mt wr pc lv (.long e :: st) M (nm e f) := K e
theorem j_nmM {R : Type} {mt : Mt} {wr : R → Option Value} {pc : Nat} {lv : List (Nat × Value)} {st : List Value} {M : Mem} {f : Mem → Option (R × Mem)} (K : ∀ N : Mem, J mt wr pc lv st N (f N)) : J mt wr pc lv st M (nm M f) := K M
theorem j_lv {R : Type} {mt : Mt} {wr : R → Option Value} {pc : Nat} {lv lv' : List (Nat × Value)} {st : List Value} {M : Mem} {F : Option (R × Mem)} (ks : List Nat) (h : lv_pick lv ks = lv') (K : J mt wr pc lv' st M F) : J mt wr pc lv st M F := by
  intro r M' hF p l e s m args below meth c D ad dA A mc ms hp H locs ls hP hD hS hl
  refine K r M' hF p l e s m args below meth c D ad dA A mc ms hp H locs ls hP hD hS (lv_sub hl ks ?_)
  subst h
  unfold lv_pick
  rw [List.map_filterMap]
  congr 1
  funext k
  simp
theorem j_gd {R : Type} {mt : Mt} {wr : R → Option Value} {pc : Nat} {lv : List (Nat × Value)} {st : List Value} {M : Mem} {F : Option (R × Mem)} {i : Int32} {n : Nat} (K : vp_in i n → J mt wr pc lv st M F) : J mt wr pc lv st M (gd i n F) := by
  unfold gd
  by_cases h : i < 0 ∨ n ≤ i.toNatClampNeg
  · rw [if_pos h]; exact j_none
  · rw [if_neg h]; exact K h
def wI : Int32 → Option Value := fun x => some (.int x)
def wL : Int64 → Option Value := fun x => some (.long x)
def wU : Unit → Option Value := fun _ => none
theorem j_ireturn {mt : Mt} {pc : Nat} {lv : List (Nat × Value)} {M : Mem} {x : Int32} (hd : decode mt.2.1 pc = .ok (.ireturn, 1)) (hrt : mt.2.2.2.1 = some .int) : J mt wI pc lv [.int x] M (some (x, M)) := by
  intro r M' hF p l e s m args below meth c D ad dA A mc ms hp H locs ls hP hD hS hl
  obtain ⟨hx, hb, hr, hml, hown, hts, hlk, hC⟩ := id hp
  cases hF
  exact W.iret hx hb (hr.trans hrt) (fun t ht hW => ⟨rfl, by show Wd D ad dA A _ _ t.heap; rw [ht]; exact ⟨hP, hD⟩, hS.F ht⟩) hS.2.2 hd
theorem j_zreturn {mt : Mt} {pc : Nat} {lv : List (Nat × Value)} {M : Mem} {x : Int32} {ty : FieldType} (hd : decode mt.2.1 pc = .ok (.ireturn, 1)) (hrt : mt.2.2.2.1 = some ty) (hn : narrow ty (.int x) = .int x) : J mt wI pc lv [.int x] M (some (x, M)) := by
  intro r M' hF p l e s m args below meth c D ad dA A mc ms hp H locs ls hP hD hS hl
  obtain ⟨hx, hb, hr, hml, hown, hts, hlk, hC⟩ := id hp
  cases hF
  exact W.zret hx hb (hr.trans hrt) hn (fun t ht hW => ⟨rfl, by show Wd D ad dA A _ _ t.heap; rw [ht]; exact ⟨hP, hD⟩, hS.F ht⟩) hS.2.2 hd
theorem j_lreturn {mt : Mt} {pc : Nat} {lv : List (Nat × Value)} {M : Mem} {x : Int64} (hd : decode mt.2.1 pc = .ok (.lreturn, 1)) (hrt : mt.2.2.2.1 = some .long) : J mt wL pc lv [.long x] M (some (x, M)) := by
  intro r M' hF p l e s m args below meth c D ad dA A mc ms hp H locs ls hP hD hS hl
  obtain ⟨hx, hb, hr, hml, hown, hts, hlk, hC⟩ := id hp
  cases hF
  exact W.lret hx hb (hr.trans hrt) (fun t ht hW => ⟨rfl, by show Wd D ad dA A _ _ t.heap; rw [ht]; exact ⟨hP, hD⟩, hS.F ht⟩) hS.2.2 hd
theorem j_return {mt : Mt} {pc : Nat} {lv : List (Nat × Value)} {M : Mem}  (hd : decode mt.2.1 pc = .ok (.return_, 1)) (hrt : mt.2.2.2.1 = none) : J mt wU pc lv [] M (some ((), M)) := by
  intro r M' hF p l e s m args below meth c D ad dA A mc ms hp H locs ls hP hD hS hl
  obtain ⟨hx, hb, hr, hml, hown, hts, hlk, hC⟩ := id hp
  cases hF
  exact W.vret hx hb (hr.trans hrt) (fun t ht hW => ⟨rfl, by show Wd D ad dA A _ _ t.heap; rw [ht]; exact ⟨hP, hD⟩, hS.F ht⟩) hS.2.2 hd
end
section
/-! ROWS: memory and calls (written by wip/gen/mem.py) -/
def Fl (own : String) (idx ci k : Nat) (ty : FieldType) (fin : Bool) : Prop := ∃ (C : String) (T : u_T) (N : Nat) (ty0 : Nat → FieldType), cl[ci]? = some (C, T, N) ∧ k < N ∧ (∀ w ∈ u_ws C T N, w ∈ tbl) ∧ Cond.fieldLink own idx C (T k).2.1 (T k).2.2.1 ∈ tbl ∧ (T k).1 = C ∧ (∀ k, k < N → parseFieldDescriptor (T k).2.2.1 = some (ty0 k)) ∧ (∀ a, a < N → ∀ b, b < N → a ≠ b → (T a).2.1 ≠ (T b).2.1) ∧ parseFieldDescriptor (T k).2.2.1 = some ty ∧ (T k).2.2.2 = fin
theorem lay_obj {ad : Nat → Nat} {dA : Nat → ClassId} {sh : Shp} {M : Mem} {a ci : Nat} {ds : List Nat} (h : sh[a]? = some (ci, ds)) (hc : ci < 100) : (lay ad dA sh M)[a]? = some (ad a, .inr (ci, objOf ad M a ds)) := by
  rw [lay_get h, cell_obj hc]
theorem lay_int {ad : Nat → Nat} {dA : Nat → ClassId} {sh : Shp} {M : Mem} {a n t : Nat} (h : sh[a]? = some (100 + t, [n])) (ht : t < 3) : (lay ad dA sh M)[a]? = some (ad a, .inl (dA t, n, .inl (M.1 a))) := by
  rw [lay_get h]
  unfold cellOf
  rw [if_neg (by show ¬ 100 + t < 100; omega), if_pos (by show 100 + t < 103; omega), show 100 + t - 100 = t by omega]
  rfl
theorem lay_long {ad : Nat → Nat} {dA : Nat → ClassId} {sh : Shp} {M : Mem} {a n : Nat} (h : sh[a]? = some (103, [n])) : (lay ad dA sh M)[a]? = some (ad a, .inl (dA 3, n, .inr (.inl (M.2 a)))) := lay_get h
theorem lay_refs {ad : Nat → Nat} {dA : Nat → ClassId} {sh : Shp} {M : Mem} {a t : Nat} {ids : List Nat} (h : sh[a]? = some (104 + t, ids)) : (lay ad dA sh M)[a]? = some (ad a, .inl (dA (4 + t), ids.length, .inr (.inr (.inr (.inr (fun j => (ids[j]?).map ad)))))) := by
  rw [lay_get h]
  unfold cellOf
  rw [if_neg (by show ¬ 104 + t < 100; omega), if_neg (by show ¬ 104 + t < 103; omega), if_neg (by show ¬ 104 + t = 103; omega), show 104 + t - 100 = 4 + t by omega]
theorem j_getI {R : Type} {mt : Mt} {wr : R → Option Value} {pc : Nat} {lv : List (Nat × Value)} {st : List Value} {M : Mem} {F : Option (R × Mem)} {a ci k idx : Nat} {ds : List Nat} {ty : FieldType} {fin : Bool} (hd : decode mt.2.1 pc = .ok (.getfield idx, 3)) (hf : Fl mt.1 idx ci k ty fin) (hs : mt.2.2.2.2.2[a]? = some (ci, ds)) (hc : ci < 100) (hk : ds[k]? = some 0) (K : J mt wr (pc + 3) lv (.int (M.1 a k) :: st) M F) : J mt wr pc lv (.ref a :: st) M F := by
  intro r M' hF p l e s m args below meth c D ad dA A mc ms hp H locs ls hP hD hS hl
  obtain ⟨hx, hb, hr, hml, hown, hts, hlk, hC⟩ := id hp
  obtain ⟨C, T, N, ty0, e1, e2, e3, e4, e5, e6, e7, e8, e9⟩ := hf
  exact va_get (D := (D.1, D.2)) hx hb hts e3 hown hC.1 hP a (lay_obj hs hc) e1 k e2 (hts _ e4) (fun x h => by rw [e5] at h; exact h) (obj_get hk) hd (K r M' hF p l e s m args below meth c D ad dA A mc ms hp H locs ls hP hD hS hl)
theorem j_getL {R : Type} {mt : Mt} {wr : R → Option Value} {pc : Nat} {lv : List (Nat × Value)} {st : List Value} {M : Mem} {F : Option (R × Mem)} {a ci k idx : Nat} {ds : List Nat} {ty : FieldType} {fin : Bool} (hd : decode mt.2.1 pc = .ok (.getfield idx, 3)) (hf : Fl mt.1 idx ci k ty fin) (hs : mt.2.2.2.2.2[a]? = some (ci, ds)) (hc : ci < 100) (hk : ds[k]? = some 1) (K : J mt wr (pc + 3) lv (.long (M.2 a k) :: st) M F) : J mt wr pc lv (.ref a :: st) M F := by
  intro r M' hF p l e s m args below meth c D ad dA A mc ms hp H locs ls hP hD hS hl
  obtain ⟨hx, hb, hr, hml, hown, hts, hlk, hC⟩ := id hp
  obtain ⟨C, T, N, ty0, e1, e2, e3, e4, e5, e6, e7, e8, e9⟩ := hf
  exact va_get (D := (D.1, D.2)) hx hb hts e3 hown hC.1 hP a (lay_obj hs hc) e1 k e2 (hts _ e4) (fun x h => by rw [e5] at h; exact h) (obj_get hk) hd (K r M' hF p l e s m args below meth c D ad dA A mc ms hp H locs ls hP hD hS hl)
theorem j_getA {R : Type} {mt : Mt} {wr : R → Option Value} {pc : Nat} {lv : List (Nat × Value)} {st : List Value} {M : Mem} {F : Option (R × Mem)} {a ci k idx : Nat} {ds : List Nat} {ty : FieldType} {fin : Bool} {b : Nat} (hd : decode mt.2.1 pc = .ok (.getfield idx, 3)) (hf : Fl mt.1 idx ci k ty fin) (hs : mt.2.2.2.2.2[a]? = some (ci, ds)) (hc : ci < 100) (hk : ds[k]? = some (b + 2)) (K : J mt wr (pc + 3) lv (.ref b :: st) M F) : J mt wr pc lv (.ref a :: st) M F := by
  intro r M' hF p l e s m args below meth c D ad dA A mc ms hp H locs ls hP hD hS hl
  obtain ⟨hx, hb, hr, hml, hown, hts, hlk, hC⟩ := id hp
  obtain ⟨C, T, N, ty0, e1, e2, e3, e4, e5, e6, e7, e8, e9⟩ := hf
  exact va_get (D := (D.1, D.2)) hx hb hts e3 hown hC.1 hP a (lay_obj hs hc) e1 k e2 (hts _ e4) (fun x h => by rw [e5] at h; exact h) (obj_get hk) hd (K r M' hF p l e s m args below meth c D ad dA A mc ms hp H locs ls hP hD hS hl)
theorem j_putI {R : Type} {mt : Mt} {wr : R → Option Value} {pc : Nat} {lv : List (Nat × Value)} {st : List Value} {M : Mem} {F : Option (R × Mem)} {a ci k idx : Nat} {ds : List Nat} {ty : FieldType} {v : Int32} (hd : decode mt.2.1 pc = .ok (.putfield idx, 3)) (hf : Fl mt.1 idx ci k ty false) (ht : ty = .int) (hs : mt.2.2.2.2.2[a]? = some (ci, ds)) (hc : ci < 100) (hk : ds[k]? = some 0) (K : J mt wr (pc + 3) lv st (si M a k v) F) : J mt wr pc lv (.int v :: .ref a :: st) M F := by
  intro r M' hF p l e s m args below meth c D ad dA A mc ms hp H locs ls hP hD hS hl
  obtain ⟨hx, hb, hr, hml, hown, hts, hlk, hC⟩ := id hp
  obtain ⟨C, T, N, ty0, e1, e2, e3, e4, e5, e6, e7, e8, e9⟩ := hf
  have hset : (lay ad dA mt.2.2.2.2.2 M).set a (ad a, .inr (ci, (objOf ad M a ds).set k (.int v))) = lay ad dA mt.2.2.2.2.2 (si M a k v) := by
    refine lay_set hs ?_ (fun j hj => si_off hj)
    rw [cell_obj hc, obj_set hk (M' := si M a k v) (by simp [fldOf, si]) (fun j kd2 hj => by
      match kd2 with
      | 0 => simp [fldOf, si, hj]
      | 1 => simp [fldOf, si, hj]
      | r + 2 => rfl)]
  refine va_put (v := .int v) (D := (D.1, D.2)) hx hb hts e3 ty0 e6 e7 hown hC.1 hP hD hS a (lay_obj hs hc) e1 k e2 (hts _ e4) (fun x h => by rw [e5] at h; exact h) e9 e8 (by rw [ht]; rfl) (by rw [ht]; rfl) ((List.getElem?_eq_some_iff.mp (obj_get (ad := ad) (M := M) (a := a) hk)).1) hd (fun H1 locs1 hP1 hD1 hS1 => ?_)
  rw [hset] at hP1 hD1
  exact K r M' hF p l e s m args below meth c D ad dA A mc ms hp H1 locs1 ls hP1 hD1 hS1 hl
theorem j_putZ {R : Type} {mt : Mt} {wr : R → Option Value} {pc : Nat} {lv : List (Nat × Value)} {st : List Value} {M : Mem} {F : Option (R × Mem)} {a ci k idx : Nat} {ds : List Nat} {ty : FieldType} {v : Int32} (hd : decode mt.2.1 pc = .ok (.putfield idx, 3)) (hf : Fl mt.1 idx ci k ty false) (hn : narrow ty (.int v) = .int v) (hfi : fits ty (.int v) = true) (hs : mt.2.2.2.2.2[a]? = some (ci, ds)) (hc : ci < 100) (hk : ds[k]? = some 0) (K : J mt wr (pc + 3) lv st (si M a k v) F) : J mt wr pc lv (.int v :: .ref a :: st) M F := by
  intro r M' hF p l e s m args below meth c D ad dA A mc ms hp H locs ls hP hD hS hl
  obtain ⟨hx, hb, hr, hml, hown, hts, hlk, hC⟩ := id hp
  obtain ⟨C, T, N, ty0, e1, e2, e3, e4, e5, e6, e7, e8, e9⟩ := hf
  have hset : (lay ad dA mt.2.2.2.2.2 M).set a (ad a, .inr (ci, (objOf ad M a ds).set k (.int v))) = lay ad dA mt.2.2.2.2.2 (si M a k v) := by
    refine lay_set hs ?_ (fun j hj => si_off hj)
    rw [cell_obj hc, obj_set hk (M' := si M a k v) (by simp [fldOf, si]) (fun j kd2 hj => by
      match kd2 with
      | 0 => simp [fldOf, si, hj]
      | 1 => simp [fldOf, si, hj]
      | r + 2 => rfl)]
  refine va_put (v := .int v) (D := (D.1, D.2)) hx hb hts e3 ty0 e6 e7 hown hC.1 hP hD hS a (lay_obj hs hc) e1 k e2 (hts _ e4) (fun x h => by rw [e5] at h; exact h) e9 e8 hn hfi ((List.getElem?_eq_some_iff.mp (obj_get (ad := ad) (M := M) (a := a) hk)).1) hd (fun H1 locs1 hP1 hD1 hS1 => ?_)
  rw [hset] at hP1 hD1
  exact K r M' hF p l e s m args below meth c D ad dA A mc ms hp H1 locs1 ls hP1 hD1 hS1 hl
theorem j_putL {R : Type} {mt : Mt} {wr : R → Option Value} {pc : Nat} {lv : List (Nat × Value)} {st : List Value} {M : Mem} {F : Option (R × Mem)} {a ci k idx : Nat} {ds : List Nat} {ty : FieldType} {v : Int64} (hd : decode mt.2.1 pc = .ok (.putfield idx, 3)) (hf : Fl mt.1 idx ci k ty false) (ht : ty = .long) (hs : mt.2.2.2.2.2[a]? = some (ci, ds)) (hc : ci < 100) (hk : ds[k]? = some 1) (K : J mt wr (pc + 3) lv st (sl M a k v) F) : J mt wr pc lv (.long v :: .ref a :: st) M F := by
  intro r M' hF p l e s m args below meth c D ad dA A mc ms hp H locs ls hP hD hS hl
  obtain ⟨hx, hb, hr, hml, hown, hts, hlk, hC⟩ := id hp
  obtain ⟨C, T, N, ty0, e1, e2, e3, e4, e5, e6, e7, e8, e9⟩ := hf
  have hset : (lay ad dA mt.2.2.2.2.2 M).set a (ad a, .inr (ci, (objOf ad M a ds).set k (.long v))) = lay ad dA mt.2.2.2.2.2 (sl M a k v) := by
    refine lay_set hs ?_ (fun j hj => sl_off hj)
    rw [cell_obj hc, obj_set hk (M' := sl M a k v) (by simp [fldOf, sl]) (fun j kd2 hj => by
      match kd2 with
      | 0 => simp [fldOf, sl, hj]
      | 1 => simp [fldOf, sl, hj]
      | r + 2 => rfl)]
  refine va_put (v := .long v) (D := (D.1, D.2)) hx hb hts e3 ty0 e6 e7 hown hC.1 hP hD hS a (lay_obj hs hc) e1 k e2 (hts _ e4) (fun x h => by rw [e5] at h; exact h) e9 e8 (by rw [ht]; rfl) (by rw [ht]; rfl) ((List.getElem?_eq_some_iff.mp (obj_get (ad := ad) (M := M) (a := a) hk)).1) hd (fun H1 locs1 hP1 hD1 hS1 => ?_)
  rw [hset] at hP1 hD1
  exact K r M' hF p l e s m args below meth c D ad dA A mc ms hp H1 locs1 ls hP1 hD1 hS1 hl
theorem j_iald {R : Type} {mt : Mt} {wr : R → Option Value} {pc : Nat} {lv : List (Nat × Value)} {st : List Value} {M : Mem} {F : Option (R × Mem)} {a n : Nat} {i : Int32} (hd : decode mt.2.1 pc = .ok (.iaload, 1)) (hs : mt.2.2.2.2.2[a]? = some (100, [n])) (K : vp_in i n → J mt wr (pc + 1) lv (.int (M.1 a i.toNatClampNeg) :: st) M F) : J mt wr pc lv (.int i :: .ref a :: st) M (gd i n F) := by
  refine j_gd (fun hin => ?_)
  have K := K hin
  intro r M' hF p l e s m args below meth c D ad dA A mc ms hp H locs ls hP hD hS hl
  obtain ⟨hx, hb, hr, hml, hown, hts, hlk, hC⟩ := id hp
  exact va_iald (D := D) hx hb hC.1 hP a 0 (lay_int (t := 0) hs (by decide)) rfl hin hd (K r M' hF p l e s m args below meth c D ad dA A mc ms hp H locs ls hP hD hS hl)
theorem j_bald {R : Type} {mt : Mt} {wr : R → Option Value} {pc : Nat} {lv : List (Nat × Value)} {st : List Value} {M : Mem} {F : Option (R × Mem)} {a n : Nat} {i : Int32} (hd : decode mt.2.1 pc = .ok (.baload, 1)) (hs : mt.2.2.2.2.2[a]? = some (101, [n])) (K : vp_in i n → J mt wr (pc + 1) lv (.int (M.1 a i.toNatClampNeg) :: st) M F) : J mt wr pc lv (.int i :: .ref a :: st) M (gd i n F) := by
  refine j_gd (fun hin => ?_)
  have K := K hin
  intro r M' hF p l e s m args below meth c D ad dA A mc ms hp H locs ls hP hD hS hl
  obtain ⟨hx, hb, hr, hml, hown, hts, hlk, hC⟩ := id hp
  exact va_bald (D := D) hx hb hC.1 hP a 1 (lay_int (t := 1) hs (by decide)) rfl hin hd (K r M' hF p l e s m args below meth c D ad dA A mc ms hp H locs ls hP hD hS hl)
theorem j_zald {R : Type} {mt : Mt} {wr : R → Option Value} {pc : Nat} {lv : List (Nat × Value)} {st : List Value} {M : Mem} {F : Option (R × Mem)} {a n : Nat} {i : Int32} (hd : decode mt.2.1 pc = .ok (.baload, 1)) (hs : mt.2.2.2.2.2[a]? = some (102, [n])) (K : vp_in i n → J mt wr (pc + 1) lv (.int (M.1 a i.toNatClampNeg) :: st) M F) : J mt wr pc lv (.int i :: .ref a :: st) M (gd i n F) := by
  refine j_gd (fun hin => ?_)
  have K := K hin
  intro r M' hF p l e s m args below meth c D ad dA A mc ms hp H locs ls hP hD hS hl
  obtain ⟨hx, hb, hr, hml, hown, hts, hlk, hC⟩ := id hp
  exact va_zald (D := D) hx hb hC.1 hP a 2 (lay_int (t := 2) hs (by decide)) rfl hin hd (K r M' hF p l e s m args below meth c D ad dA A mc ms hp H locs ls hP hD hS hl)
theorem j_lald {R : Type} {mt : Mt} {wr : R → Option Value} {pc : Nat} {lv : List (Nat × Value)} {st : List Value} {M : Mem} {F : Option (R × Mem)} {a n : Nat} {i : Int32} (hd : decode mt.2.1 pc = .ok (.laload, 1)) (hs : mt.2.2.2.2.2[a]? = some (103, [n])) (K : vp_in i n → J mt wr (pc + 1) lv (.long (M.2 a i.toNatClampNeg) :: st) M F) : J mt wr pc lv (.int i :: .ref a :: st) M (gd i n F) := by
  refine j_gd (fun hin => ?_)
  have K := K hin
  intro r M' hF p l e s m args below meth c D ad dA A mc ms hp H locs ls hP hD hS hl
  obtain ⟨hx, hb, hr, hml, hown, hts, hlk, hC⟩ := id hp
  exact va_lald (D := D) hx hb hC.1 hP a 3 (lay_long hs) rfl hin hd (K r M' hF p l e s m args below meth c D ad dA A mc ms hp H locs ls hP hD hS hl)
theorem j_aald0 {R : Type} {mt : Mt} {wr : R → Option Value} {pc : Nat} {lv : List (Nat × Value)} {st : List Value} {M : Mem} {F : Option (R × Mem)} {a : Nat} {ids : List Nat} {i : Int32} (hd : decode mt.2.1 pc = .ok (.aaload, 1)) (hs : mt.2.2.2.2.2[a]? = some (104, ids)) (K : vp_in i ids.length → J mt wr (pc + 1) lv (.ref (ids.getD i.toNatClampNeg 0) :: st) M F) : J mt wr pc lv (.int i :: .ref a :: st) M (gd i ids.length F) := by
  refine j_gd (fun hin => ?_)
  have K := K hin
  intro r M' hF p l e s m args below meth c D ad dA A mc ms hp H locs ls hP hD hS hl
  obtain ⟨hx, hb, hr, hml, hown, hts, hlk, hC⟩ := id hp
  have hlt : i.toNatClampNeg < ids.length := Nat.not_le.mp fun q => hin (Or.inr q)
  have he : (ids[i.toNatClampNeg]?).map ad = some (ad (ids.getD i.toNatClampNeg 0)) := by
    rw [List.getD_eq_getElem?_getD, List.getElem?_eq_getElem hlt]; rfl
  refine W.aald (v := .ref (ad (ids.getD i.toNatClampNeg 0))) (ty := (.object "ShakeHands$Minds")) hx hb (hP a _ (lay_refs (t := 0) hs)) ((hC.1.2 4 _ rfl).1 ids.length (fun j => va_rf ((ids[j]?).map ad))) rfl (fun q => by cases q) (by show ¬ (i < 0 ∨ (arrV _ _ _).slots.size ≤ _); rw [arrV_size]; exact hin) (by show (arrV _ _ _).slots[_]? = _; rw [arrV_read _ _ hlt]; exact congrArg (fun o => some (va_rf o)) he) rfl rfl hd (K r M' hF p l e s m args below meth c D ad dA A mc ms hp H locs ls hP hD hS hl)
theorem j_aald1 {R : Type} {mt : Mt} {wr : R → Option Value} {pc : Nat} {lv : List (Nat × Value)} {st : List Value} {M : Mem} {F : Option (R × Mem)} {a : Nat} {ids : List Nat} {i : Int32} (hd : decode mt.2.1 pc = .ok (.aaload, 1)) (hs : mt.2.2.2.2.2[a]? = some (105, ids)) (K : vp_in i ids.length → J mt wr (pc + 1) lv (.ref (ids.getD i.toNatClampNeg 0) :: st) M F) : J mt wr pc lv (.int i :: .ref a :: st) M (gd i ids.length F) := by
  refine j_gd (fun hin => ?_)
  have K := K hin
  intro r M' hF p l e s m args below meth c D ad dA A mc ms hp H locs ls hP hD hS hl
  obtain ⟨hx, hb, hr, hml, hown, hts, hlk, hC⟩ := id hp
  have hlt : i.toNatClampNeg < ids.length := Nat.not_le.mp fun q => hin (Or.inr q)
  have he : (ids[i.toNatClampNeg]?).map ad = some (ad (ids.getD i.toNatClampNeg 0)) := by
    rw [List.getD_eq_getElem?_getD, List.getElem?_eq_getElem hlt]; rfl
  refine W.aald (v := .ref (ad (ids.getD i.toNatClampNeg 0))) (ty := (.object "ShakeHands$Sheet")) hx hb (hP a _ (lay_refs (t := 1) hs)) ((hC.1.2 5 _ rfl).1 ids.length (fun j => va_rf ((ids[j]?).map ad))) rfl (fun q => by cases q) (by show ¬ (i < 0 ∨ (arrV _ _ _).slots.size ≤ _); rw [arrV_size]; exact hin) (by show (arrV _ _ _).slots[_]? = _; rw [arrV_read _ _ hlt]; exact congrArg (fun o => some (va_rf o)) he) rfl rfl hd (K r M' hF p l e s m args below meth c D ad dA A mc ms hp H locs ls hP hD hS hl)
theorem j_aald2 {R : Type} {mt : Mt} {wr : R → Option Value} {pc : Nat} {lv : List (Nat × Value)} {st : List Value} {M : Mem} {F : Option (R × Mem)} {a : Nat} {ids : List Nat} {i : Int32} (hd : decode mt.2.1 pc = .ok (.aaload, 1)) (hs : mt.2.2.2.2.2[a]? = some (106, ids)) (K : vp_in i ids.length → J mt wr (pc + 1) lv (.ref (ids.getD i.toNatClampNeg 0) :: st) M F) : J mt wr pc lv (.int i :: .ref a :: st) M (gd i ids.length F) := by
  refine j_gd (fun hin => ?_)
  have K := K hin
  intro r M' hF p l e s m args below meth c D ad dA A mc ms hp H locs ls hP hD hS hl
  obtain ⟨hx, hb, hr, hml, hown, hts, hlk, hC⟩ := id hp
  have hlt : i.toNatClampNeg < ids.length := Nat.not_le.mp fun q => hin (Or.inr q)
  have he : (ids[i.toNatClampNeg]?).map ad = some (ad (ids.getD i.toNatClampNeg 0)) := by
    rw [List.getD_eq_getElem?_getD, List.getElem?_eq_getElem hlt]; rfl
  refine W.aald (v := .ref (ad (ids.getD i.toNatClampNeg 0))) (ty := (.array .long)) hx hb (hP a _ (lay_refs (t := 2) hs)) ((hC.1.2 6 _ rfl).1 ids.length (fun j => va_rf ((ids[j]?).map ad))) rfl (fun q => by cases q) (by show ¬ (i < 0 ∨ (arrV _ _ _).slots.size ≤ _); rw [arrV_size]; exact hin) (by show (arrV _ _ _).slots[_]? = _; rw [arrV_read _ _ hlt]; exact congrArg (fun o => some (va_rf o)) he) rfl rfl hd (K r M' hF p l e s m args below meth c D ad dA A mc ms hp H locs ls hP hD hS hl)
theorem j_iast {R : Type} {mt : Mt} {wr : R → Option Value} {pc : Nat} {lv : List (Nat × Value)} {st : List Value} {M : Mem} {F : Option (R × Mem)} {a n : Nat} {i x : Int32} (hd : decode mt.2.1 pc = .ok (.iastore, 1)) (hs : mt.2.2.2.2.2[a]? = some (100, [n])) (K : vp_in i n → J mt wr (pc + 1) lv st (si M a i.toNatClampNeg x) F) : J mt wr pc lv (.int x :: .int i :: .ref a :: st) M (gd i n F) := by
  refine j_gd (fun hin => ?_)
  have K := K hin
  intro r M' hF p l e s m args below meth c D ad dA A mc ms hp H locs ls hP hD hS hl
  obtain ⟨hx, hb, hr, hml, hown, hts, hlk, hC⟩ := id hp
  have hset : (lay ad dA mt.2.2.2.2.2 M).set a (ad a, .inl (dA 0, n, .inl (upd (M.1 a) i.toNatClampNeg x))) = lay ad dA mt.2.2.2.2.2 (si M a i.toNatClampNeg x) := by
    refine lay_set hs ?_ (fun j hj => si_off hj)
    have e : upd (M.1 a) i.toNatClampNeg x = (si M a i.toNatClampNeg x).1 a := by funext y; simp [upd, si]
    rw [e]
    rfl
  refine va_iast (D := D) hx hb hC.1 hP hD hS a 0 (lay_int (t := 0) hs (by decide)) rfl hin hd (fun H1 locs1 hP1 hD1 hS1 => ?_)
  rw [hset] at hP1 hD1
  exact K r M' hF p l e s m args below meth c D ad dA A mc ms hp H1 locs1 ls hP1 hD1 hS1 hl
theorem j_bast {R : Type} {mt : Mt} {wr : R → Option Value} {pc : Nat} {lv : List (Nat × Value)} {st : List Value} {M : Mem} {F : Option (R × Mem)} {a n : Nat} {i x : Int32} (hd : decode mt.2.1 pc = .ok (.bastore, 1)) (hs : mt.2.2.2.2.2[a]? = some (101, [n])) (K : vp_in i n → J mt wr (pc + 1) lv st (si M a i.toNatClampNeg (vp_nar .byte x)) F) : J mt wr pc lv (.int x :: .int i :: .ref a :: st) M (gd i n F) := by
  refine j_gd (fun hin => ?_)
  have K := K hin
  intro r M' hF p l e s m args below meth c D ad dA A mc ms hp H locs ls hP hD hS hl
  obtain ⟨hx, hb, hr, hml, hown, hts, hlk, hC⟩ := id hp
  have hset : (lay ad dA mt.2.2.2.2.2 M).set a (ad a, .inl (dA 1, n, .inl (upd (M.1 a) i.toNatClampNeg (vp_nar .byte x)))) = lay ad dA mt.2.2.2.2.2 (si M a i.toNatClampNeg (vp_nar .byte x)) := by
    refine lay_set hs ?_ (fun j hj => si_off hj)
    have e : upd (M.1 a) i.toNatClampNeg (vp_nar .byte x) = (si M a i.toNatClampNeg (vp_nar .byte x)).1 a := by funext y; simp [upd, si]
    rw [e]
    rfl
  refine va_bast (D := D) hx hb hC.1 hP hD hS a 1 (lay_int (t := 1) hs (by decide)) rfl hin hd (fun H1 locs1 hP1 hD1 hS1 => ?_)
  rw [hset] at hP1 hD1
  exact K r M' hF p l e s m args below meth c D ad dA A mc ms hp H1 locs1 ls hP1 hD1 hS1 hl
theorem j_zast {R : Type} {mt : Mt} {wr : R → Option Value} {pc : Nat} {lv : List (Nat × Value)} {st : List Value} {M : Mem} {F : Option (R × Mem)} {a n : Nat} {i x : Int32} (hd : decode mt.2.1 pc = .ok (.bastore, 1)) (hs : mt.2.2.2.2.2[a]? = some (102, [n])) (K : vp_in i n → J mt wr (pc + 1) lv st (si M a i.toNatClampNeg (vp_nar .boolean x)) F) : J mt wr pc lv (.int x :: .int i :: .ref a :: st) M (gd i n F) := by
  refine j_gd (fun hin => ?_)
  have K := K hin
  intro r M' hF p l e s m args below meth c D ad dA A mc ms hp H locs ls hP hD hS hl
  obtain ⟨hx, hb, hr, hml, hown, hts, hlk, hC⟩ := id hp
  have hset : (lay ad dA mt.2.2.2.2.2 M).set a (ad a, .inl (dA 2, n, .inl (upd (M.1 a) i.toNatClampNeg (vp_nar .boolean x)))) = lay ad dA mt.2.2.2.2.2 (si M a i.toNatClampNeg (vp_nar .boolean x)) := by
    refine lay_set hs ?_ (fun j hj => si_off hj)
    have e : upd (M.1 a) i.toNatClampNeg (vp_nar .boolean x) = (si M a i.toNatClampNeg (vp_nar .boolean x)).1 a := by funext y; simp [upd, si]
    rw [e]
    rfl
  refine va_zast (D := D) hx hb hC.1 hP hD hS a 2 (lay_int (t := 2) hs (by decide)) rfl hin hd (fun H1 locs1 hP1 hD1 hS1 => ?_)
  rw [hset] at hP1 hD1
  exact K r M' hF p l e s m args below meth c D ad dA A mc ms hp H1 locs1 ls hP1 hD1 hS1 hl
theorem j_last {R : Type} {mt : Mt} {wr : R → Option Value} {pc : Nat} {lv : List (Nat × Value)} {st : List Value} {M : Mem} {F : Option (R × Mem)} {a n : Nat} {i : Int32} {x : Int64} (hd : decode mt.2.1 pc = .ok (.lastore, 1)) (hs : mt.2.2.2.2.2[a]? = some (103, [n])) (K : vp_in i n → J mt wr (pc + 1) lv st (sl M a i.toNatClampNeg x) F) : J mt wr pc lv (.long x :: .int i :: .ref a :: st) M (gd i n F) := by
  refine j_gd (fun hin => ?_)
  have K := K hin
  intro r M' hF p l e s m args below meth c D ad dA A mc ms hp H locs ls hP hD hS hl
  obtain ⟨hx, hb, hr, hml, hown, hts, hlk, hC⟩ := id hp
  have hset : (lay ad dA mt.2.2.2.2.2 M).set a (ad a, .inl (dA 3, n, .inr (.inl (vp_updL (M.2 a) i.toNatClampNeg x)))) = lay ad dA mt.2.2.2.2.2 (sl M a i.toNatClampNeg x) := by
    refine lay_set hs ?_ (fun j hj => sl_off hj)
    have e : vp_updL (M.2 a) i.toNatClampNeg x = (sl M a i.toNatClampNeg x).2 a := by funext y; simp [vp_updL, sl]
    rw [e]
    rfl
  refine va_last (D := D) hx hb hC.1 hP hD hS a 3 (lay_long hs) rfl hin hd (fun H1 locs1 hP1 hD1 hS1 => ?_)
  rw [hset] at hP1 hD1
  exact K r M' hF p l e s m args below meth c D ad dA A mc ms hp H1 locs1 ls hP1 hD1 hS1 hl
theorem j_alen {R : Type} {mt : Mt} {wr : R → Option Value} {pc : Nat} {lv : List (Nat × Value)} {st : List Value} {M : Mem} {F : Option (R × Mem)} {a n t : Nat} (hd : decode mt.2.1 pc = .ok (.arraylength, 1)) (hs : mt.2.2.2.2.2[a]? = some (100 + t, [n])) (ht : t < 3) (K : J mt wr (pc + 1) lv (.int (nI n) :: st) M F) : J mt wr pc lv (.ref a :: st) M F := by
  intro r M' hF p l e s m args below meth c D ad dA A mc ms hp H locs ls hP hD hS hl
  obtain ⟨hx, hb, hr, hml, hown, hts, hlk, hC⟩ := id hp
  have ht2 : ∃ ty, (tysOf dA)[t]? = some (dA t, ty) := by
    match t, ht with
    | 0, _ => exact ⟨_, rfl⟩
    | 1, _ => exact ⟨_, rfl⟩
    | 2, _ => exact ⟨_, rfl⟩
  obtain ⟨ty, ht2⟩ := ht2
  exact va_alen (D := D) hx hb hC.1 hP a t (lay_int hs ht) ht2 rfl hd (K r M' hF p l e s m args below meth c D ad dA A mc ms hp H locs ls hP hD hS hl)
theorem j_gets200 {R : Type} {mt : Mt} {wr : R → Option Value} {pc : Nat} {lv : List (Nat × Value)} {st : List Value} {M : Mem} {F : Option (R × Mem)} {idx : Nat} (hd : decode mt.2.1 pc = .ok (.getstatic idx, 3)) (hw : (mt.1, idx, "LESSER") ∈ nestF) (K : J mt wr (pc + 3) lv (.ref 200 :: st) M F) : J mt wr pc lv st M F := by
  intro r M' hF p l e s m args below meth c D ad dA A mc ms hp H locs ls hP hD hS hl
  obtain ⟨hx, hb, hr, hml, hown, hts, hlk, hC⟩ := id hp
  exact va_getsN hx hb hC.2.1 hS hown ((hC.2.2.2.2.2.2.2.2.2.1 _ hw).use rfl) (fun x h => h) hd (K r M' hF p l e s m args below meth c D ad dA A mc ms hp H locs ls hP hD hS hl)
theorem j_ialdS200 {R : Type} {mt : Mt} {wr : R → Option Value} {pc : Nat} {lv : List (Nat × Value)} {st : List Value} {M : Mem} {F : Option (R × Mem)} {i : Int32} (hd : decode mt.2.1 pc = .ok (.iaload, 1)) (K : vp_in i 15 → J mt wr (pc + 1) lv (.int (lsr i.toNatClampNeg) :: st) M F) : J mt wr pc lv (.int i :: .ref 200 :: st) M (gd i 15 F) := by
  refine j_gd (fun hin => ?_)
  have K := K hin
  intro r M' hF p l e s m args below meth c D ad dA A mc ms hp H locs ls hP hD hS hl
  obtain ⟨hx, hb, hr, hml, hown, hts, hlk, hC⟩ := id hp
  exact va_ti hx hb hC.2.2.1 hS hin rfl hd (K r M' hF p l e s m args below meth c D ad dA A mc ms hp H locs ls hP hD hS hl)
theorem j_gets201 {R : Type} {mt : Mt} {wr : R → Option Value} {pc : Nat} {lv : List (Nat × Value)} {st : List Value} {M : Mem} {F : Option (R × Mem)} {idx : Nat} (hd : decode mt.2.1 pc = .ok (.getstatic idx, 3)) (hw : (mt.1, idx, "GREATER") ∈ nestF) (K : J mt wr (pc + 3) lv (.ref 201 :: st) M F) : J mt wr pc lv st M F := by
  intro r M' hF p l e s m args below meth c D ad dA A mc ms hp H locs ls hP hD hS hl
  obtain ⟨hx, hb, hr, hml, hown, hts, hlk, hC⟩ := id hp
  exact va_getsN hx hb hC.2.2.2.1 hS hown ((hC.2.2.2.2.2.2.2.2.2.1 _ hw).use rfl) (fun x h => h) hd (K r M' hF p l e s m args below meth c D ad dA A mc ms hp H locs ls hP hD hS hl)
theorem j_ialdS201 {R : Type} {mt : Mt} {wr : R → Option Value} {pc : Nat} {lv : List (Nat × Value)} {st : List Value} {M : Mem} {F : Option (R × Mem)} {i : Int32} (hd : decode mt.2.1 pc = .ok (.iaload, 1)) (K : vp_in i 15 → J mt wr (pc + 1) lv (.int (grt i.toNatClampNeg) :: st) M F) : J mt wr pc lv (.int i :: .ref 201 :: st) M (gd i 15 F) := by
  refine j_gd (fun hin => ?_)
  have K := K hin
  intro r M' hF p l e s m args below meth c D ad dA A mc ms hp H locs ls hP hD hS hl
  obtain ⟨hx, hb, hr, hml, hown, hts, hlk, hC⟩ := id hp
  exact va_ti hx hb hC.2.2.2.2.1 hS hin rfl hd (K r M' hF p l e s m args below meth c D ad dA A mc ms hp H locs ls hP hD hS hl)
def gc {α : Type} (sp dp n : Int32) (n0 n1 : Nat) (F : Option α) : Option α := if sp < 0 ∨ dp < 0 ∨ n < 0 ∨ n0 < sp.toNatClampNeg + n.toNatClampNeg ∨ n1 < dp.toNatClampNeg + n.toNatClampNeg then none else F
theorem st8 {ad : Nat → Nat} {st : List Value} {d : Nat} (h1 : 1 ≤ d) (hst : (st.map fun v => v.category).sum ≤ 8) : ((st.map (rv ad)).map fun v => v.category).sum + (nativeFrameWords "java/lang/System" "arraycopy" 5 + 11) ≤ 64 * d := by
  rw [rv_cats]
  have : nativeFrameWords "java/lang/System" "arraycopy" 5 ≤ 40 := by decide +kernel
  omega
theorem j_copyI {R : Type} {mt : Mt} {wr : R → Option Value} {pc : Nat} {lv : List (Nat × Value)} {st : List Value} {M : Mem} {F : Option (R × Mem)} {a0 a1 n0 n1 idx : Nat} {sp dp n : Int32} (hd : decode mt.2.1 pc = .ok (.invokestatic idx, 3)) (hw : Cond.methodLink mt.1 idx arraycopyName ∈ tbl) (hwn : Cond.native arraycopyName ∈ tbl) (hws : Cond.static arraycopyName ∈ tbl) (hs0 : mt.2.2.2.2.2[a0]? = some (100, [n0])) (hs1 : mt.2.2.2.2.2[a1]? = some (100, [n1])) (hdp : 1 ≤ mt.2.2.2.2.1) (hst : (st.map fun v => v.category).sum ≤ 8) (K : J mt wr (pc + 3) lv st (cpI M a0 sp.toNatClampNeg a1 dp.toNatClampNeg n.toNatClampNeg) F) : J mt wr pc lv (.int n :: .int dp :: .ref a1 :: .int sp :: .ref a0 :: st) M (gc sp dp n n0 n1 F) := by
  unfold gc
  by_cases hg : sp < 0 ∨ dp < 0 ∨ n < 0 ∨ n0 < sp.toNatClampNeg + n.toNatClampNeg ∨ n1 < dp.toNatClampNeg + n.toNatClampNeg
  · rw [if_pos hg]; exact j_none
  rw [if_neg hg]
  simp only [not_or] at hg
  obtain ⟨g1, g2, g3, g4, g5⟩ := hg
  intro r M' hF p l e s m args below meth c D ad dA A mc ms hp H locs ls hP hD hS hl
  obtain ⟨hx, hb, hr, hml, hown, hts, hlk, hC⟩ := id hp
  have hset : (lay ad dA mt.2.2.2.2.2 M).set a1 (ad a1, .inl (dA 0, n1, .inl (va_cpy (M.1 a0) (M.1 a1) sp.toNatClampNeg dp.toNatClampNeg n.toNatClampNeg))) = lay ad dA mt.2.2.2.2.2 (cpI M a0 sp.toNatClampNeg a1 dp.toNatClampNeg n.toNatClampNeg) := by
    refine lay_set hs1 ?_ (fun j hj => cpI_off hj)
    have e : va_cpy (M.1 a0) (M.1 a1) sp.toNatClampNeg dp.toNatClampNeg n.toNatClampNeg = (cpI M a0 sp.toNatClampNeg a1 dp.toNatClampNeg n.toNatClampNeg).1 a1 := by funext y; simp [va_cpy, cpI]
    rw [e]
    rfl
  refine va_copyi (D := D) hx hb (hml.trans hl.1.symm) hown (hts _ hw) (hts _ hwn) (hts _ hws) (hts _ ini_System) hC.1 hP hD hS a0 a1 0 0 (lay_int (t := 0) hs0 (by decide)) (lay_int (t := 0) hs1 (by decide)) rfl rfl rfl g1 g2 g3 (Nat.not_lt.mp g4) (Nat.not_lt.mp g5) (fun i _ => rfl) hdp (st8 hdp hst) hd (fun H1 locs1 hP1 hD1 hS1 => ?_)
  rw [hset] at hP1 hD1
  exact K r M' hF p l e s m args below meth c D ad dA A mc ms hp H1 locs1 ls hP1 hD1 hS1 hl
theorem j_copyL {R : Type} {mt : Mt} {wr : R → Option Value} {pc : Nat} {lv : List (Nat × Value)} {st : List Value} {M : Mem} {F : Option (R × Mem)} {a0 a1 n0 n1 idx : Nat} {sp dp n : Int32} (hd : decode mt.2.1 pc = .ok (.invokestatic idx, 3)) (hw : Cond.methodLink mt.1 idx arraycopyName ∈ tbl) (hwn : Cond.native arraycopyName ∈ tbl) (hws : Cond.static arraycopyName ∈ tbl) (hs0 : mt.2.2.2.2.2[a0]? = some (103, [n0])) (hs1 : mt.2.2.2.2.2[a1]? = some (103, [n1])) (hdp : 1 ≤ mt.2.2.2.2.1) (hst : (st.map fun v => v.category).sum ≤ 8) (K : J mt wr (pc + 3) lv st (cpL M a0 sp.toNatClampNeg a1 dp.toNatClampNeg n.toNatClampNeg) F) : J mt wr pc lv (.int n :: .int dp :: .ref a1 :: .int sp :: .ref a0 :: st) M (gc sp dp n n0 n1 F) := by
  unfold gc
  by_cases hg : sp < 0 ∨ dp < 0 ∨ n < 0 ∨ n0 < sp.toNatClampNeg + n.toNatClampNeg ∨ n1 < dp.toNatClampNeg + n.toNatClampNeg
  · rw [if_pos hg]; exact j_none
  rw [if_neg hg]
  simp only [not_or] at hg
  obtain ⟨g1, g2, g3, g4, g5⟩ := hg
  intro r M' hF p l e s m args below meth c D ad dA A mc ms hp H locs ls hP hD hS hl
  obtain ⟨hx, hb, hr, hml, hown, hts, hlk, hC⟩ := id hp
  have hset : (lay ad dA mt.2.2.2.2.2 M).set a1 (ad a1, .inl (dA 3, n1, .inr (.inl (va_cpy (M.2 a0) (M.2 a1) sp.toNatClampNeg dp.toNatClampNeg n.toNatClampNeg)))) = lay ad dA mt.2.2.2.2.2 (cpL M a0 sp.toNatClampNeg a1 dp.toNatClampNeg n.toNatClampNeg) := by
    refine lay_set hs1 ?_ (fun j hj => cpL_off hj)
    have e : va_cpy (M.2 a0) (M.2 a1) sp.toNatClampNeg dp.toNatClampNeg n.toNatClampNeg = (cpL M a0 sp.toNatClampNeg a1 dp.toNatClampNeg n.toNatClampNeg).2 a1 := by funext y; simp [va_cpy, cpL]
    rw [e]
    rfl
  refine va_copyl (D := D) hx hb (hml.trans hl.1.symm) hown (hts _ hw) (hts _ hwn) (hts _ hws) (hts _ ini_System) hC.1 hP hD hS a0 a1 3 3 (lay_long hs0) (lay_long hs1) rfl rfl rfl g1 g2 g3 (Nat.not_lt.mp g4) (Nat.not_lt.mp g5) (fun i _ => rfl) hdp (st8 hdp hst) hd (fun H1 locs1 hP1 hD1 hS1 => ?_)
  rw [hset] at hP1 hD1
  exact K r M' hF p l e s m args below meth c D ad dA A mc ms hp H1 locs1 ls hP1 hD1 hS1 hl
theorem j_mmax {R : Type} {mt : Mt} {wr : R → Option Value} {pc : Nat} {lv : List (Nat × Value)} {st : List Value} {M : Mem} {F : Option (R × Mem)} {x y : Int32} {idx : Nat} (hd : decode mt.2.1 pc = .ok (.invokestatic idx, 3)) (hw : Cond.methodLink mt.1 idx Lib.Math.max.name ∈ tbl) (hws : Cond.static Lib.Math.max.name ∈ tbl) (hwc : Cond.code Lib.Math.max.name Lib.Math.max.code 2 (some .int) ∈ tbl) (hdp : 1 ≤ mt.2.2.2.2.1) (hst : (st.map fun v => v.category).sum ≤ 8) (K : J mt wr (pc + 3) lv (.int (if x < y then y else x) :: st) M F) : J mt wr pc lv (.int y :: .int x :: st) M F := by
  intro r M' hF p l e s m args below meth c D ad dA A mc ms hp H locs ls hP hD hS hl
  obtain ⟨hx, hb, hr, hml, hown, hts, hlk, hC⟩ := id hp
  refine va_mmax hx hb (hml.trans hl.1.symm) hown (hts _ hw) (hts _ hws) (hts _ ini_Math) (hts _ hwc) hdp ?_ (Nat.le_refl _) (Nat.le_refl _) hd (K r M' hF p l e s m args below meth c D ad dA A mc ms hp H locs ls hP hD hS hl)
  show ((st.map (rv ad)).map fun v => v.category).sum + 13 ≤ 64 * mt.2.2.2.2.1
  rw [rv_cats]
  omega
theorem j_mmin {R : Type} {mt : Mt} {wr : R → Option Value} {pc : Nat} {lv : List (Nat × Value)} {st : List Value} {M : Mem} {F : Option (R × Mem)} {x y : Int32} {idx : Nat} (hd : decode mt.2.1 pc = .ok (.invokestatic idx, 3)) (hw : Cond.methodLink mt.1 idx Lib.Math.min.name ∈ tbl) (hws : Cond.static Lib.Math.min.name ∈ tbl) (hwc : Cond.code Lib.Math.min.name Lib.Math.min.code 2 (some .int) ∈ tbl) (hdp : 1 ≤ mt.2.2.2.2.1) (hst : (st.map fun v => v.category).sum ≤ 8) (K : J mt wr (pc + 3) lv (.int (if y < x then y else x) :: st) M F) : J mt wr pc lv (.int y :: .int x :: st) M F := by
  intro r M' hF p l e s m args below meth c D ad dA A mc ms hp H locs ls hP hD hS hl
  obtain ⟨hx, hb, hr, hml, hown, hts, hlk, hC⟩ := id hp
  refine va_mmin hx hb (hml.trans hl.1.symm) hown (hts _ hw) (hts _ hws) (hts _ ini_Math) (hts _ hwc) hdp ?_ (Nat.le_refl _) (Nat.le_refl _) hd (K r M' hF p l e s m args below meth c D ad dA A mc ms hp H locs ls hP hD hS hl)
  show ((st.map (rv ad)).map fun v => v.category).sum + 13 ≤ 64 * mt.2.2.2.2.1
  rw [rv_cats]
  omega
def CV (own : String) (idx : Nat) (y : MethodName) : Prop := Cond.methodLink own idx y ∈ tbl ∧ Cond.instanceMethod y ∈ tbl ∧ Cond.selects y.cls y y ∈ tbl ∧ Cond.initialized y.cls ∈ tbl
def CS (own : String) (idx : Nat) (y : MethodName) : Prop := Cond.methodLink own idx y ∈ tbl ∧ Cond.static y ∈ tbl ∧ Cond.initialized y.cls ∈ tbl
def CSN (own : String) (idx : Nat) (y : MethodName) : Prop := (own, idx, y) ∈ nestM ∧ Cond.static y ∈ tbl ∧ Cond.initialized y.cls ∈ tbl
def Dn (y : MethodName) (n : Nat) : Prop := y.cls ≠ "java/lang/invoke/MethodHandle" ∧ y.cls ≠ "java/lang/invoke/VarHandle" ∧ (parseMethodDescriptor y.desc).map (fun d => d.parameters.length) = some n
def nr {R : Type} (wr : R → Option Value) : Prop := ∀ (r : R) (ad : Nat → Nat), ((wr r).toList.map (rv ad)) = (wr r).toList
theorem nr_I : nr wI := fun _ _ => rfl
theorem nr_L : nr wL := fun _ _ => rfl
theorem nr_U : nr wU := fun _ _ => rfl
theorem good_cons {w : Cond} (h : w ∈ tbl) : GoodIn tbl (w :: tbl) := fun v hv => by
  rcases List.mem_cons.mp hv with rfl | hv
  · exact tbl_good _ h
  · exact tbl_good _ hv
section WC
variable {p : Program} {l : Launch} {e : Env} {R : Room} {s : State} {m : MethodId} {args : Array Value} {below : List Frame} {meth : Method} {c : Code} {H : Heap} {locs : List Loc} {cells slots : Nat} {Q : State → Prop} {pc : Nat} {ls : Array Slot} {rest st0 : List Value} {a : Array Value} {A : Nat → Prop}
theorem wr_call {wv : Option Value} {Post : State → Prop} (hr : va_Run p l e R s m args below meth c H locs cells slots 0 0 (F0 m pc ls st0) rest (Qr wv Post A a) A) (hS : va_S A s.heap H locs)
    (kk : ∀ (t : State) (H1 : Heap) (locs1 : List Loc), t.heap = H1 → Post t → va_S A s.heap H1 locs1 → W p l e R s m args below meth c H1 locs1 cells slots Q (F0 m (pc + 3) ls (wv.toList ++ rest))) : W p l e R s m args below meth c H locs cells slots Q (F0 m pc ls st0) := by
  intro T hT X
  obtain ⟨v, st₀, t, T', L, h0, X', hL, e1, e2, ⟨hv, hp, hz, hk⟩, st⟩ := hr T hT X
  cases hv
  rw [h0] at hz hk
  obtain ⟨t2, a1, b1⟩ := kk t T'.heap (locs ++ L) e1.symm hp
    ⟨Nat.le_trans hS.1 (by rw [e1]; exact hz), fun q h1 h2 => by rw [e1, hk q (Nat.lt_of_lt_of_le h1 hS.1) h2]; exact hS.2.1 q h1 h2, fun q hq => by
      rcases List.mem_append.mp hq with h | h
      · exact hS.2.2 q h
      · exact hL q h⟩ T' rfl X'
  exact ⟨t2, st t2 a1, b1⟩
end WC
theorem bd_some {α β : Type} {x : Option (α × Mem)} {f : α → Mem → Option β} {y : β} (h : bd x f = some y) : ∃ r N, x = some (r, N) ∧ f r N = some y := by
  match x, h with
  | some q, h => exact ⟨q.1, q.2, rfl, h⟩
theorem ct_blind {D : va_G} {ad : Nat → Nat} {dA : Nat → ClassId} {A : Nat → Prop} {sh : Shp} {M : Mem} {av : List Value} : FrameBlind (va_Pc av (fun U => Wd D ad dA A sh M U.heap ∧ Cx D ad dA A U U.heap)) := fun a U g mk q => ⟨q.1, q.2.1, q.2.2.blind⟩
theorem j_callV {R : Type} {mt : Mt} {wr : R → Option Value} {pc : Nat} {lv : List (Nat × Value)} {st : List Value} {M : Mem} {R2 : Type} {wr2 : R2 → Option Value} {mt2 : Mt} {F2 : Option (R2 × Mem)} {k : R2 → Mem → Option (R × Mem)} {y : MethodName} {idx n : Nat} {as : List Value} {a ci N : Nat} {ds : List Nat} {T : u_T} (hd : decode mt.2.1 pc = .ok (.invokevirtual idx, 3)) (hct : Ct y mt2 wr2 (.ref a :: as) M F2) (hw : CV mt.1 idx y) (hcd : Cond.code y mt2.2.1 mt2.2.2.1 mt2.2.2.2.1 ∈ tbl) (hdn : Dn y n) (hn : as.length = n) (hsh : mt2.2.2.2.2.2 = mt.2.2.2.2.2) (hdp : mt2.2.2.2.2.1 + 1 ≤ mt.2.2.2.2.1) (hmx : mt2.2.2.1 ≤ 40) (hst : (st.map fun v => v.category).sum ≤ 8) (hnr : nr wr2) (hs : mt.2.2.2.2.2[a]? = some (ci, ds)) (hc : ci < 100) (hcl : cl[ci]? = some (y.cls, T, N)) (K : ∀ (r : R2) (N : Mem), J mt wr (pc + 3) lv ((wr2 r).toList ++ st) N (k r N)) : J mt wr pc lv (as.reverse ++ .ref a :: st) M (bd F2 k) := by
  intro r M' hF p l e s m args below meth c D ad dA A mc ms hp H locs ls hP hD hS hl
  obtain ⟨hx, hb, hr, hml, hown, hts, hlk, hC⟩ := id hp
  obtain ⟨r1, M1, hF1, hF⟩ := bd_some hF
  have hM := hct r1 M1 hF1 l D ad dA A
  have hR : (rmd mt2.2.2.2.2.1).frames + 1 ≤ (rmc mt.2.2.2.2.1 mc ms).frames ∧ 8 + (mt2.2.2.1 + 11) + (rmd mt2.2.2.2.2.1).locals ≤ (rmc mt.2.2.2.2.1 mc ms).locals := by
    refine ⟨hdp, ?_⟩
    show 8 + (mt2.2.2.1 + 11) + 64 * mt2.2.2.2.2.1 ≤ 64 * mt.2.2.2.2.1
    omega
  refine wr_call (wv := wr2 r1) (rest := st.map (rv ad)) (va_runV (As := as.map (rv ad)) (b := ad a) (C := y.cls) (Ts := tbl) ⟨hx, hb, hml, hown, hts⟩ hM ⟨callB_of n hts (good_cons hcd) rfl rfl rfl (hts _ hw.2.2.2) (hts _ hw.1) hdn hR, hts _ hw.2.1, hts _ hw.2.2.1⟩ ⟨ct_blind, va_recv hC.1 hP hcl (lay_obj hs hc), fun U hU hW => ⟨rfl, by rw [hU, hsh]; exact ⟨hP, hD⟩, by rw [hU]; exact hC.next hS hW⟩⟩ rfl (by rw [List.length_map]; exact hn) hl.1 ?_ (lv_room (by rw [rv_cats]; exact hst)) hd ⟨Nat.le_refl _, Nat.le_refl _⟩) hS (fun t H1 locs1 ht hpost hS1 => ?_)
  · show (as.reverse ++ .ref a :: st).map (rv ad) = (as.map (rv ad)).reverse ++ .ref (ad a) :: st.map (rv ad)
    rw [List.map_append, List.map_reverse]
    rfl
  obtain ⟨hP1, hD1⟩ := hpost
  rw [ht] at hP1
  rw [hsh] at hP1 hD1
  have hk := K r1 M1 r M' hF p l e s m args below meth c D ad dA A mc ms hp H1 locs1 ls hP1 hD1 hS1 hl
  rw [List.map_append, hnr] at hk
  exact hk
theorem j_callS {R : Type} {mt : Mt} {wr : R → Option Value} {pc : Nat} {lv : List (Nat × Value)} {st : List Value} {M : Mem} {R2 : Type} {wr2 : R2 → Option Value} {mt2 : Mt} {F2 : Option (R2 × Mem)} {k : R2 → Mem → Option (R × Mem)} {y : MethodName} {idx n : Nat} {as : List Value} (hd : decode mt.2.1 pc = .ok (.invokestatic idx, 3)) (hct : Ct y mt2 wr2 as M F2) (hw : CS mt.1 idx y) (hcd : Cond.code y mt2.2.1 mt2.2.2.1 mt2.2.2.2.1 ∈ tbl) (hdn : Dn y n) (hn : as.length = n) (hsh : mt2.2.2.2.2.2 = mt.2.2.2.2.2) (hdp : mt2.2.2.2.2.1 + 1 ≤ mt.2.2.2.2.1) (hmx : mt2.2.2.1 ≤ 40) (hst : (st.map fun v => v.category).sum ≤ 8) (hnr : nr wr2) (K : ∀ (r : R2) (N : Mem), J mt wr (pc + 3) lv ((wr2 r).toList ++ st) N (k r N)) : J mt wr pc lv (as.reverse ++ st) M (bd F2 k) := by
  intro r M' hF p l e s m args below meth c D ad dA A mc ms hp H locs ls hP hD hS hl
  obtain ⟨hx, hb, hr, hml, hown, hts, hlk, hC⟩ := id hp
  obtain ⟨r1, M1, hF1, hF⟩ := bd_some hF
  have hM := hct r1 M1 hF1 l D ad dA A
  have hR : (rmd mt2.2.2.2.2.1).frames + 1 ≤ (rmc mt.2.2.2.2.1 mc ms).frames ∧ 8 + (mt2.2.2.1 + 11) + (rmd mt2.2.2.2.2.1).locals ≤ (rmc mt.2.2.2.2.1 mc ms).locals := by
    refine ⟨hdp, ?_⟩
    show 8 + (mt2.2.2.1 + 11) + 64 * mt2.2.2.2.2.1 ≤ 64 * mt.2.2.2.2.1
    omega
  refine wr_call (wv := wr2 r1) (rest := st.map (rv ad)) (va_runS (As := as.map (rv ad)) (Ts := tbl) ⟨hx, hb, hml, hown, hts⟩ hM ⟨callB_of n hts (good_cons hcd) rfl rfl rfl (hts _ hw.2.2) (hts _ hw.1) hdn hR, hts _ hw.2.1⟩ ⟨ct_blind, fun U hU hW => ⟨rfl, by rw [hU, hsh]; exact ⟨hP, hD⟩, by rw [hU]; exact hC.next hS hW⟩⟩ rfl (by rw [List.length_map]; exact hn) hl.1 ?_ (lv_room (by rw [rv_cats]; exact hst)) hd ⟨Nat.le_refl _, Nat.le_refl _⟩) hS (fun t H1 locs1 ht hpost hS1 => ?_)
  · show (as.reverse ++ st).map (rv ad) = (as.map (rv ad)).reverse ++ st.map (rv ad)
    rw [List.map_append, List.map_reverse]
  obtain ⟨hP1, hD1⟩ := hpost
  rw [ht] at hP1
  rw [hsh] at hP1 hD1
  have hk := K r1 M1 r M' hF p l e s m args below meth c D ad dA A mc ms hp H1 locs1 ls hP1 hD1 hS1 hl
  rw [List.map_append, hnr] at hk
  exact hk
theorem j_callSN {R : Type} {mt : Mt} {wr : R → Option Value} {pc : Nat} {lv : List (Nat × Value)} {st : List Value} {M : Mem} {R2 : Type} {wr2 : R2 → Option Value} {mt2 : Mt} {F2 : Option (R2 × Mem)} {k : R2 → Mem → Option (R × Mem)} {y : MethodName} {idx n : Nat} {as : List Value} (hd : decode mt.2.1 pc = .ok (.invokestatic idx, 3)) (hct : Ct y mt2 wr2 as M F2) (hw : CSN mt.1 idx y) (hcd : Cond.code y mt2.2.1 mt2.2.2.1 mt2.2.2.2.1 ∈ tbl) (hdn : Dn y n) (hn : as.length = n) (hsh : mt2.2.2.2.2.2 = mt.2.2.2.2.2) (hdp : mt2.2.2.2.2.1 + 1 ≤ mt.2.2.2.2.1) (hmx : mt2.2.2.1 ≤ 40) (hst : (st.map fun v => v.category).sum ≤ 8) (hnr : nr wr2) (K : ∀ (r : R2) (N : Mem), J mt wr (pc + 3) lv ((wr2 r).toList ++ st) N (k r N)) : J mt wr pc lv (as.reverse ++ st) M (bd F2 k) := by
  intro r M' hF p l e s m args below meth c D ad dA A mc ms hp H locs ls hP hD hS hl
  obtain ⟨hx, hb, hr, hml, hown, hts, hlk, hC⟩ := id hp
  obtain ⟨r1, M1, hF1, hF⟩ := bd_some hF
  have hM := hct r1 M1 hF1 l D ad dA A
  have hR : (rmd mt2.2.2.2.2.1).frames + 1 ≤ (rmc mt.2.2.2.2.1 mc ms).frames ∧ 8 + (mt2.2.2.1 + 11) + (rmd mt2.2.2.2.2.1).locals ≤ (rmc mt.2.2.2.2.1 mc ms).locals := by
    refine ⟨hdp, ?_⟩
    show 8 + (mt2.2.2.1 + 11) + 64 * mt2.2.2.2.2.1 ≤ 64 * mt.2.2.2.2.1
    omega
  refine wr_call (wv := wr2 r1) (rest := st.map (rv ad)) (va_runSN (As := as.map (rv ad)) (Ts := tbl) ⟨hx, hb, hml, hown, hts⟩ hM ⟨va_cnB n hts (good_cons hcd) rfl rfl rfl (hC.2.2.2.2.2.2.2.2.2.2 _ hw.1) (hts _ hw.2.2) hdn hR, hts _ hw.2.1, trivial⟩ ⟨ct_blind, fun U hU hW => ⟨rfl, by rw [hU, hsh]; exact ⟨hP, hD⟩, by rw [hU]; exact hC.next hS hW⟩⟩ rfl (by rw [List.length_map]; exact hn) hl.1 ?_ (lv_room (by rw [rv_cats]; exact hst)) hd ⟨Nat.le_refl _, Nat.le_refl _⟩) hS (fun t H1 locs1 ht hpost hS1 => ?_)
  · show (as.reverse ++ st).map (rv ad) = (as.map (rv ad)).reverse ++ st.map (rv ad)
    rw [List.map_append, List.map_reverse]
  obtain ⟨hP1, hD1⟩ := hpost
  rw [ht] at hP1
  rw [hsh] at hP1 hD1
  have hk := K r1 M1 r M' hF p l e s m args below meth c D ad dA A mc ms hp H1 locs1 ls hP1 hD1 hS1 hl
  rw [List.map_append, hnr] at hk
  exact hk
theorem j_callV0 {R : Type} {mt : Mt} {wr : R → Option Value} {pc : Nat} {lv : List (Nat × Value)} {st : List Value} {M : Mem} {R2 : Type} {wr2 : R2 → Option Value} {mt2 : Mt} {F2 : Option (R2 × Mem)} {k : R2 → Mem → Option (R × Mem)} {y : MethodName} {idx : Nat} {a ci N : Nat} {ds : List Nat} {T : u_T} (hd : decode mt.2.1 pc = .ok (.invokevirtual idx, 3)) (hct : Ct y mt2 wr2 (.ref a :: []) M F2) (hw : CV mt.1 idx y) (hcd : Cond.code y mt2.2.1 mt2.2.2.1 mt2.2.2.2.1 ∈ tbl) (hdn : Dn y 0) (hsh : mt2.2.2.2.2.2 = mt.2.2.2.2.2) (hdp : mt2.2.2.2.2.1 + 1 ≤ mt.2.2.2.2.1) (hmx : mt2.2.2.1 ≤ 40) (hst : (st.map fun v => v.category).sum ≤ 8) (hnr : nr wr2) (hs : mt.2.2.2.2.2[a]? = some (ci, ds)) (hc : ci < 100) (hcl : cl[ci]? = some (y.cls, T, N)) (K : ∀ (r : R2) (N : Mem), J mt wr (pc + 3) lv ((wr2 r).toList ++ st) N (k r N)) : J mt wr pc lv (.ref a :: st) M (bd F2 k) := j_callV (as := []) hd hct hw hcd hdn rfl hsh hdp hmx hst hnr hs hc hcl K
theorem j_callV1 {R : Type} {mt : Mt} {wr : R → Option Value} {pc : Nat} {lv : List (Nat × Value)} {st : List Value} {M : Mem} {R2 : Type} {wr2 : R2 → Option Value} {mt2 : Mt} {F2 : Option (R2 × Mem)} {k : R2 → Mem → Option (R × Mem)} {y : MethodName} {idx : Nat} {v0 : Value} {a ci N : Nat} {ds : List Nat} {T : u_T} (hd : decode mt.2.1 pc = .ok (.invokevirtual idx, 3)) (hct : Ct y mt2 wr2 (.ref a :: [v0]) M F2) (hw : CV mt.1 idx y) (hcd : Cond.code y mt2.2.1 mt2.2.2.1 mt2.2.2.2.1 ∈ tbl) (hdn : Dn y 1) (hsh : mt2.2.2.2.2.2 = mt.2.2.2.2.2) (hdp : mt2.2.2.2.2.1 + 1 ≤ mt.2.2.2.2.1) (hmx : mt2.2.2.1 ≤ 40) (hst : (st.map fun v => v.category).sum ≤ 8) (hnr : nr wr2) (hs : mt.2.2.2.2.2[a]? = some (ci, ds)) (hc : ci < 100) (hcl : cl[ci]? = some (y.cls, T, N)) (K : ∀ (r : R2) (N : Mem), J mt wr (pc + 3) lv ((wr2 r).toList ++ st) N (k r N)) : J mt wr pc lv (v0 :: .ref a :: st) M (bd F2 k) := j_callV (as := [v0]) hd hct hw hcd hdn rfl hsh hdp hmx hst hnr hs hc hcl K
theorem j_callS1 {R : Type} {mt : Mt} {wr : R → Option Value} {pc : Nat} {lv : List (Nat × Value)} {st : List Value} {M : Mem} {R2 : Type} {wr2 : R2 → Option Value} {mt2 : Mt} {F2 : Option (R2 × Mem)} {k : R2 → Mem → Option (R × Mem)} {y : MethodName} {idx : Nat} {v0 : Value} (hd : decode mt.2.1 pc = .ok (.invokestatic idx, 3)) (hct : Ct y mt2 wr2 [v0] M F2) (hw : CS mt.1 idx y) (hcd : Cond.code y mt2.2.1 mt2.2.2.1 mt2.2.2.2.1 ∈ tbl) (hdn : Dn y 1) (hsh : mt2.2.2.2.2.2 = mt.2.2.2.2.2) (hdp : mt2.2.2.2.2.1 + 1 ≤ mt.2.2.2.2.1) (hmx : mt2.2.2.1 ≤ 40) (hst : (st.map fun v => v.category).sum ≤ 8) (hnr : nr wr2) (K : ∀ (r : R2) (N : Mem), J mt wr (pc + 3) lv ((wr2 r).toList ++ st) N (k r N)) : J mt wr pc lv (v0 :: st) M (bd F2 k) := j_callS (as := [v0]) hd hct hw hcd hdn rfl hsh hdp hmx hst hnr K
theorem j_callSN1 {R : Type} {mt : Mt} {wr : R → Option Value} {pc : Nat} {lv : List (Nat × Value)} {st : List Value} {M : Mem} {R2 : Type} {wr2 : R2 → Option Value} {mt2 : Mt} {F2 : Option (R2 × Mem)} {k : R2 → Mem → Option (R × Mem)} {y : MethodName} {idx : Nat} {v0 : Value} (hd : decode mt.2.1 pc = .ok (.invokestatic idx, 3)) (hct : Ct y mt2 wr2 [v0] M F2) (hw : CSN mt.1 idx y) (hcd : Cond.code y mt2.2.1 mt2.2.2.1 mt2.2.2.2.1 ∈ tbl) (hdn : Dn y 1) (hsh : mt2.2.2.2.2.2 = mt.2.2.2.2.2) (hdp : mt2.2.2.2.2.1 + 1 ≤ mt.2.2.2.2.1) (hmx : mt2.2.2.1 ≤ 40) (hst : (st.map fun v => v.category).sum ≤ 8) (hnr : nr wr2) (K : ∀ (r : R2) (N : Mem), J mt wr (pc + 3) lv ((wr2 r).toList ++ st) N (k r N)) : J mt wr pc lv (v0 :: st) M (bd F2 k) := j_callSN (as := [v0]) hd hct hw hcd hdn rfl hsh hdp hmx hst hnr K
theorem j_callV2 {R : Type} {mt : Mt} {wr : R → Option Value} {pc : Nat} {lv : List (Nat × Value)} {st : List Value} {M : Mem} {R2 : Type} {wr2 : R2 → Option Value} {mt2 : Mt} {F2 : Option (R2 × Mem)} {k : R2 → Mem → Option (R × Mem)} {y : MethodName} {idx : Nat} {v0 v1 : Value} {a ci N : Nat} {ds : List Nat} {T : u_T} (hd : decode mt.2.1 pc = .ok (.invokevirtual idx, 3)) (hct : Ct y mt2 wr2 (.ref a :: [v0, v1]) M F2) (hw : CV mt.1 idx y) (hcd : Cond.code y mt2.2.1 mt2.2.2.1 mt2.2.2.2.1 ∈ tbl) (hdn : Dn y 2) (hsh : mt2.2.2.2.2.2 = mt.2.2.2.2.2) (hdp : mt2.2.2.2.2.1 + 1 ≤ mt.2.2.2.2.1) (hmx : mt2.2.2.1 ≤ 40) (hst : (st.map fun v => v.category).sum ≤ 8) (hnr : nr wr2) (hs : mt.2.2.2.2.2[a]? = some (ci, ds)) (hc : ci < 100) (hcl : cl[ci]? = some (y.cls, T, N)) (K : ∀ (r : R2) (N : Mem), J mt wr (pc + 3) lv ((wr2 r).toList ++ st) N (k r N)) : J mt wr pc lv (v1 :: v0 :: .ref a :: st) M (bd F2 k) := j_callV (as := [v0, v1]) hd hct hw hcd hdn rfl hsh hdp hmx hst hnr hs hc hcl K
theorem j_callS2 {R : Type} {mt : Mt} {wr : R → Option Value} {pc : Nat} {lv : List (Nat × Value)} {st : List Value} {M : Mem} {R2 : Type} {wr2 : R2 → Option Value} {mt2 : Mt} {F2 : Option (R2 × Mem)} {k : R2 → Mem → Option (R × Mem)} {y : MethodName} {idx : Nat} {v0 v1 : Value} (hd : decode mt.2.1 pc = .ok (.invokestatic idx, 3)) (hct : Ct y mt2 wr2 [v0, v1] M F2) (hw : CS mt.1 idx y) (hcd : Cond.code y mt2.2.1 mt2.2.2.1 mt2.2.2.2.1 ∈ tbl) (hdn : Dn y 2) (hsh : mt2.2.2.2.2.2 = mt.2.2.2.2.2) (hdp : mt2.2.2.2.2.1 + 1 ≤ mt.2.2.2.2.1) (hmx : mt2.2.2.1 ≤ 40) (hst : (st.map fun v => v.category).sum ≤ 8) (hnr : nr wr2) (K : ∀ (r : R2) (N : Mem), J mt wr (pc + 3) lv ((wr2 r).toList ++ st) N (k r N)) : J mt wr pc lv (v1 :: v0 :: st) M (bd F2 k) := j_callS (as := [v0, v1]) hd hct hw hcd hdn rfl hsh hdp hmx hst hnr K
theorem j_callSN2 {R : Type} {mt : Mt} {wr : R → Option Value} {pc : Nat} {lv : List (Nat × Value)} {st : List Value} {M : Mem} {R2 : Type} {wr2 : R2 → Option Value} {mt2 : Mt} {F2 : Option (R2 × Mem)} {k : R2 → Mem → Option (R × Mem)} {y : MethodName} {idx : Nat} {v0 v1 : Value} (hd : decode mt.2.1 pc = .ok (.invokestatic idx, 3)) (hct : Ct y mt2 wr2 [v0, v1] M F2) (hw : CSN mt.1 idx y) (hcd : Cond.code y mt2.2.1 mt2.2.2.1 mt2.2.2.2.1 ∈ tbl) (hdn : Dn y 2) (hsh : mt2.2.2.2.2.2 = mt.2.2.2.2.2) (hdp : mt2.2.2.2.2.1 + 1 ≤ mt.2.2.2.2.1) (hmx : mt2.2.2.1 ≤ 40) (hst : (st.map fun v => v.category).sum ≤ 8) (hnr : nr wr2) (K : ∀ (r : R2) (N : Mem), J mt wr (pc + 3) lv ((wr2 r).toList ++ st) N (k r N)) : J mt wr pc lv (v1 :: v0 :: st) M (bd F2 k) := j_callSN (as := [v0, v1]) hd hct hw hcd hdn rfl hsh hdp hmx hst hnr K
theorem j_callV3 {R : Type} {mt : Mt} {wr : R → Option Value} {pc : Nat} {lv : List (Nat × Value)} {st : List Value} {M : Mem} {R2 : Type} {wr2 : R2 → Option Value} {mt2 : Mt} {F2 : Option (R2 × Mem)} {k : R2 → Mem → Option (R × Mem)} {y : MethodName} {idx : Nat} {v0 v1 v2 : Value} {a ci N : Nat} {ds : List Nat} {T : u_T} (hd : decode mt.2.1 pc = .ok (.invokevirtual idx, 3)) (hct : Ct y mt2 wr2 (.ref a :: [v0, v1, v2]) M F2) (hw : CV mt.1 idx y) (hcd : Cond.code y mt2.2.1 mt2.2.2.1 mt2.2.2.2.1 ∈ tbl) (hdn : Dn y 3) (hsh : mt2.2.2.2.2.2 = mt.2.2.2.2.2) (hdp : mt2.2.2.2.2.1 + 1 ≤ mt.2.2.2.2.1) (hmx : mt2.2.2.1 ≤ 40) (hst : (st.map fun v => v.category).sum ≤ 8) (hnr : nr wr2) (hs : mt.2.2.2.2.2[a]? = some (ci, ds)) (hc : ci < 100) (hcl : cl[ci]? = some (y.cls, T, N)) (K : ∀ (r : R2) (N : Mem), J mt wr (pc + 3) lv ((wr2 r).toList ++ st) N (k r N)) : J mt wr pc lv (v2 :: v1 :: v0 :: .ref a :: st) M (bd F2 k) := j_callV (as := [v0, v1, v2]) hd hct hw hcd hdn rfl hsh hdp hmx hst hnr hs hc hcl K
theorem j_callS3 {R : Type} {mt : Mt} {wr : R → Option Value} {pc : Nat} {lv : List (Nat × Value)} {st : List Value} {M : Mem} {R2 : Type} {wr2 : R2 → Option Value} {mt2 : Mt} {F2 : Option (R2 × Mem)} {k : R2 → Mem → Option (R × Mem)} {y : MethodName} {idx : Nat} {v0 v1 v2 : Value} (hd : decode mt.2.1 pc = .ok (.invokestatic idx, 3)) (hct : Ct y mt2 wr2 [v0, v1, v2] M F2) (hw : CS mt.1 idx y) (hcd : Cond.code y mt2.2.1 mt2.2.2.1 mt2.2.2.2.1 ∈ tbl) (hdn : Dn y 3) (hsh : mt2.2.2.2.2.2 = mt.2.2.2.2.2) (hdp : mt2.2.2.2.2.1 + 1 ≤ mt.2.2.2.2.1) (hmx : mt2.2.2.1 ≤ 40) (hst : (st.map fun v => v.category).sum ≤ 8) (hnr : nr wr2) (K : ∀ (r : R2) (N : Mem), J mt wr (pc + 3) lv ((wr2 r).toList ++ st) N (k r N)) : J mt wr pc lv (v2 :: v1 :: v0 :: st) M (bd F2 k) := j_callS (as := [v0, v1, v2]) hd hct hw hcd hdn rfl hsh hdp hmx hst hnr K
theorem j_callSN3 {R : Type} {mt : Mt} {wr : R → Option Value} {pc : Nat} {lv : List (Nat × Value)} {st : List Value} {M : Mem} {R2 : Type} {wr2 : R2 → Option Value} {mt2 : Mt} {F2 : Option (R2 × Mem)} {k : R2 → Mem → Option (R × Mem)} {y : MethodName} {idx : Nat} {v0 v1 v2 : Value} (hd : decode mt.2.1 pc = .ok (.invokestatic idx, 3)) (hct : Ct y mt2 wr2 [v0, v1, v2] M F2) (hw : CSN mt.1 idx y) (hcd : Cond.code y mt2.2.1 mt2.2.2.1 mt2.2.2.2.1 ∈ tbl) (hdn : Dn y 3) (hsh : mt2.2.2.2.2.2 = mt.2.2.2.2.2) (hdp : mt2.2.2.2.2.1 + 1 ≤ mt.2.2.2.2.1) (hmx : mt2.2.2.1 ≤ 40) (hst : (st.map fun v => v.category).sum ≤ 8) (hnr : nr wr2) (K : ∀ (r : R2) (N : Mem), J mt wr (pc + 3) lv ((wr2 r).toList ++ st) N (k r N)) : J mt wr pc lv (v2 :: v1 :: v0 :: st) M (bd F2 k) := j_callSN (as := [v0, v1, v2]) hd hct hw hcd hdn rfl hsh hdp hmx hst hnr K
theorem j_callV4 {R : Type} {mt : Mt} {wr : R → Option Value} {pc : Nat} {lv : List (Nat × Value)} {st : List Value} {M : Mem} {R2 : Type} {wr2 : R2 → Option Value} {mt2 : Mt} {F2 : Option (R2 × Mem)} {k : R2 → Mem → Option (R × Mem)} {y : MethodName} {idx : Nat} {v0 v1 v2 v3 : Value} {a ci N : Nat} {ds : List Nat} {T : u_T} (hd : decode mt.2.1 pc = .ok (.invokevirtual idx, 3)) (hct : Ct y mt2 wr2 (.ref a :: [v0, v1, v2, v3]) M F2) (hw : CV mt.1 idx y) (hcd : Cond.code y mt2.2.1 mt2.2.2.1 mt2.2.2.2.1 ∈ tbl) (hdn : Dn y 4) (hsh : mt2.2.2.2.2.2 = mt.2.2.2.2.2) (hdp : mt2.2.2.2.2.1 + 1 ≤ mt.2.2.2.2.1) (hmx : mt2.2.2.1 ≤ 40) (hst : (st.map fun v => v.category).sum ≤ 8) (hnr : nr wr2) (hs : mt.2.2.2.2.2[a]? = some (ci, ds)) (hc : ci < 100) (hcl : cl[ci]? = some (y.cls, T, N)) (K : ∀ (r : R2) (N : Mem), J mt wr (pc + 3) lv ((wr2 r).toList ++ st) N (k r N)) : J mt wr pc lv (v3 :: v2 :: v1 :: v0 :: .ref a :: st) M (bd F2 k) := j_callV (as := [v0, v1, v2, v3]) hd hct hw hcd hdn rfl hsh hdp hmx hst hnr hs hc hcl K
theorem j_callS4 {R : Type} {mt : Mt} {wr : R → Option Value} {pc : Nat} {lv : List (Nat × Value)} {st : List Value} {M : Mem} {R2 : Type} {wr2 : R2 → Option Value} {mt2 : Mt} {F2 : Option (R2 × Mem)} {k : R2 → Mem → Option (R × Mem)} {y : MethodName} {idx : Nat} {v0 v1 v2 v3 : Value} (hd : decode mt.2.1 pc = .ok (.invokestatic idx, 3)) (hct : Ct y mt2 wr2 [v0, v1, v2, v3] M F2) (hw : CS mt.1 idx y) (hcd : Cond.code y mt2.2.1 mt2.2.2.1 mt2.2.2.2.1 ∈ tbl) (hdn : Dn y 4) (hsh : mt2.2.2.2.2.2 = mt.2.2.2.2.2) (hdp : mt2.2.2.2.2.1 + 1 ≤ mt.2.2.2.2.1) (hmx : mt2.2.2.1 ≤ 40) (hst : (st.map fun v => v.category).sum ≤ 8) (hnr : nr wr2) (K : ∀ (r : R2) (N : Mem), J mt wr (pc + 3) lv ((wr2 r).toList ++ st) N (k r N)) : J mt wr pc lv (v3 :: v2 :: v1 :: v0 :: st) M (bd F2 k) := j_callS (as := [v0, v1, v2, v3]) hd hct hw hcd hdn rfl hsh hdp hmx hst hnr K
theorem j_callSN4 {R : Type} {mt : Mt} {wr : R → Option Value} {pc : Nat} {lv : List (Nat × Value)} {st : List Value} {M : Mem} {R2 : Type} {wr2 : R2 → Option Value} {mt2 : Mt} {F2 : Option (R2 × Mem)} {k : R2 → Mem → Option (R × Mem)} {y : MethodName} {idx : Nat} {v0 v1 v2 v3 : Value} (hd : decode mt.2.1 pc = .ok (.invokestatic idx, 3)) (hct : Ct y mt2 wr2 [v0, v1, v2, v3] M F2) (hw : CSN mt.1 idx y) (hcd : Cond.code y mt2.2.1 mt2.2.2.1 mt2.2.2.2.1 ∈ tbl) (hdn : Dn y 4) (hsh : mt2.2.2.2.2.2 = mt.2.2.2.2.2) (hdp : mt2.2.2.2.2.1 + 1 ≤ mt.2.2.2.2.1) (hmx : mt2.2.2.1 ≤ 40) (hst : (st.map fun v => v.category).sum ≤ 8) (hnr : nr wr2) (K : ∀ (r : R2) (N : Mem), J mt wr (pc + 3) lv ((wr2 r).toList ++ st) N (k r N)) : J mt wr pc lv (v3 :: v2 :: v1 :: v0 :: st) M (bd F2 k) := j_callSN (as := [v0, v1, v2, v3]) hd hct hw hcd hdn rfl hsh hdp hmx hst hnr K
theorem j_callV5 {R : Type} {mt : Mt} {wr : R → Option Value} {pc : Nat} {lv : List (Nat × Value)} {st : List Value} {M : Mem} {R2 : Type} {wr2 : R2 → Option Value} {mt2 : Mt} {F2 : Option (R2 × Mem)} {k : R2 → Mem → Option (R × Mem)} {y : MethodName} {idx : Nat} {v0 v1 v2 v3 v4 : Value} {a ci N : Nat} {ds : List Nat} {T : u_T} (hd : decode mt.2.1 pc = .ok (.invokevirtual idx, 3)) (hct : Ct y mt2 wr2 (.ref a :: [v0, v1, v2, v3, v4]) M F2) (hw : CV mt.1 idx y) (hcd : Cond.code y mt2.2.1 mt2.2.2.1 mt2.2.2.2.1 ∈ tbl) (hdn : Dn y 5) (hsh : mt2.2.2.2.2.2 = mt.2.2.2.2.2) (hdp : mt2.2.2.2.2.1 + 1 ≤ mt.2.2.2.2.1) (hmx : mt2.2.2.1 ≤ 40) (hst : (st.map fun v => v.category).sum ≤ 8) (hnr : nr wr2) (hs : mt.2.2.2.2.2[a]? = some (ci, ds)) (hc : ci < 100) (hcl : cl[ci]? = some (y.cls, T, N)) (K : ∀ (r : R2) (N : Mem), J mt wr (pc + 3) lv ((wr2 r).toList ++ st) N (k r N)) : J mt wr pc lv (v4 :: v3 :: v2 :: v1 :: v0 :: .ref a :: st) M (bd F2 k) := j_callV (as := [v0, v1, v2, v3, v4]) hd hct hw hcd hdn rfl hsh hdp hmx hst hnr hs hc hcl K
theorem j_callS5 {R : Type} {mt : Mt} {wr : R → Option Value} {pc : Nat} {lv : List (Nat × Value)} {st : List Value} {M : Mem} {R2 : Type} {wr2 : R2 → Option Value} {mt2 : Mt} {F2 : Option (R2 × Mem)} {k : R2 → Mem → Option (R × Mem)} {y : MethodName} {idx : Nat} {v0 v1 v2 v3 v4 : Value} (hd : decode mt.2.1 pc = .ok (.invokestatic idx, 3)) (hct : Ct y mt2 wr2 [v0, v1, v2, v3, v4] M F2) (hw : CS mt.1 idx y) (hcd : Cond.code y mt2.2.1 mt2.2.2.1 mt2.2.2.2.1 ∈ tbl) (hdn : Dn y 5) (hsh : mt2.2.2.2.2.2 = mt.2.2.2.2.2) (hdp : mt2.2.2.2.2.1 + 1 ≤ mt.2.2.2.2.1) (hmx : mt2.2.2.1 ≤ 40) (hst : (st.map fun v => v.category).sum ≤ 8) (hnr : nr wr2) (K : ∀ (r : R2) (N : Mem), J mt wr (pc + 3) lv ((wr2 r).toList ++ st) N (k r N)) : J mt wr pc lv (v4 :: v3 :: v2 :: v1 :: v0 :: st) M (bd F2 k) := j_callS (as := [v0, v1, v2, v3, v4]) hd hct hw hcd hdn rfl hsh hdp hmx hst hnr K
theorem j_callSN5 {R : Type} {mt : Mt} {wr : R → Option Value} {pc : Nat} {lv : List (Nat × Value)} {st : List Value} {M : Mem} {R2 : Type} {wr2 : R2 → Option Value} {mt2 : Mt} {F2 : Option (R2 × Mem)} {k : R2 → Mem → Option (R × Mem)} {y : MethodName} {idx : Nat} {v0 v1 v2 v3 v4 : Value} (hd : decode mt.2.1 pc = .ok (.invokestatic idx, 3)) (hct : Ct y mt2 wr2 [v0, v1, v2, v3, v4] M F2) (hw : CSN mt.1 idx y) (hcd : Cond.code y mt2.2.1 mt2.2.2.1 mt2.2.2.2.1 ∈ tbl) (hdn : Dn y 5) (hsh : mt2.2.2.2.2.2 = mt.2.2.2.2.2) (hdp : mt2.2.2.2.2.1 + 1 ≤ mt.2.2.2.2.1) (hmx : mt2.2.2.1 ≤ 40) (hst : (st.map fun v => v.category).sum ≤ 8) (hnr : nr wr2) (K : ∀ (r : R2) (N : Mem), J mt wr (pc + 3) lv ((wr2 r).toList ++ st) N (k r N)) : J mt wr pc lv (v4 :: v3 :: v2 :: v1 :: v0 :: st) M (bd F2 k) := j_callSN (as := [v0, v1, v2, v3, v4]) hd hct hw hcd hdn rfl hsh hdp hmx hst hnr K
end
