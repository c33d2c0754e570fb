/-! J: the machine stands in a method of mt at pc, with locals lv, operand stack st, memory M; F is the pure residue of the method from there on -/
-- a method's constants: its class, code, locals, answer's type, depth of its calls, and the shapes of all cells
abbrev Mt : Type := String × ByteArray × Nat × Option FieldType × Nat × Shp
def lsr : Nat → Int32 := fun j => ([0, 0, 1, 0, 1, 2, 0, 1, 2, 3, 0, 1, 2, 3, 4] : List Int32).getD j 0
def grt : Nat → Int32 := fun j => ([1, 2, 2, 3, 3, 3, 4, 4, 4, 4, 5, 5, 5, 5, 5] : List Int32).getD j 0
def stLen : List Nat := [6, 4, 5, 4, 4, 5, 5]
def stByt : List (List Int32) := [[112, 101, 111, 112, 108, 101], [104, 111, 108, 100], [107, 110, 111, 119, 115], [106, 111, 105, 110], [104, 97, 110, 100], [100, 97, 105, 108, 121], [103, 108, 111, 118, 101]]
def stTxt : List (Nat × String) := [(115, "people"), (123, "hold"), (127, "knows"), (132, "join"), (137, "hand"), (150, "daily"), (157, "glove")]
def nestF : List (String × Nat × String) := [("ShakeHands$Circle", 50, "LESSER"), ("ShakeHands$Circle", 53, "GREATER"), ("ShakeHands$Search", 113, "LESSER"), ("ShakeHands$Search", 116, "GREATER")]
def nestM : List (String × Nat × MethodName) := [("ShakeHands$Search", 146, y_ShakeHands_pairOf), ("ShakeHands$Teller", 206, y_ShakeHands_pairOf)]
/-- what holds of the machine besides the object's own cells: class tables, static arrays, string constants (ids 200, 201, 210.., 220..) -/
def Cx (D : va_G) (ad : Nat → Nat) (dA : Nat → ClassId) (A : Nat → Prop) (U : State) (H : Heap) : Prop :=
  va_K D cl (tysOf dA) U ∧ va_Z "ShakeHands" "LESSER" "[I" (.ref (ad 200)) A U H ∧ va_T .int (ad 200) 15 (fun j => .int (lsr j)) A U H ∧
  va_Z "ShakeHands" "GREATER" "[I" (.ref (ad 201)) A U H ∧ va_T .int (ad 201) 15 (fun j => .int (grt j)) A U H ∧
  vk_S 7 stLen stByt (fun i => ad (210 + i)) (fun i => ad (220 + i)) A U H ∧ (∀ i q, stTxt[i]? = some q → vk_R "ShakeHands$Teller" q.1 q.2 (ad (210 + i)) U) ∧
  va_Z "java/lang/String" "COMPACT_STRINGS" "Z" (.int 1) A U H ∧ (va_Z "jdk/internal/util/Preconditions" "SIOOBE_FORMATTER" "Ljava/util/function/BiFunction;" .null A U H ∨ va_Z "jdk/internal/util/Preconditions" "SIOOBE_FORMATTER" "Ljava/util/function/BiFunction;" (.ref (ad 230)) A U H) ∧
  (∀ q ∈ nestF, va_Nw (.fieldLinkNest q.1 q.2.1 "ShakeHands" q.2.2 "[I" "ShakeHands") U) ∧ (∀ q ∈ nestM, va_Nw (.methodLinkNest q.1 q.2.1 q.2.2 "ShakeHands") U)
theorem Cx.next {D : va_G} {ad : Nat → Nat} {dA : Nat → ClassId} {A : Nat → Prop} {s U : State} {H : Heap} {locs : List Loc} (h : Cx D ad dA A s s.heap) (hS : va_S A s.heap H locs) (hW : s.WarmedH U.vm) : Cx D ad dA A U H := by
  obtain ⟨h1, h2, h3, h4, h5, h6, h7, h8, h9, h10, h11⟩ := h
  have hk : ∀ a : Nat, a < s.heap.size → ¬ A a → H[a]? = s.heap[a]? := hS.2.1
  have hv := hW.alike
  exact ⟨va_K.moved hv h1, va_Z.kept (va_Z.moved hv h2) hk, va_T.kept (va_T.moved hv h3) hk, va_Z.kept (va_Z.moved hv h4) hk, va_T.kept (va_T.moved hv h5) hk, vk_S.kept (vk_S.moved hv h6) hk, fun i q hq => vk_R.warm hW (h7 i q hq), va_Z.kept (va_Z.moved hv h8) hk, Or.imp (fun h => va_Z.kept (va_Z.moved hv h) hk) (fun h => va_Z.kept (va_Z.moved hv h) hk) h9, fun q hq => va_Nw.warmF hW (h10 q hq), fun q hq => va_Nw.warmM hW (h11 q hq)⟩
theorem Cx.blind {D : va_G} {ad : Nat → Nat} {dA : Nat → ClassId} {A : Nat → Prop} {U : State} {g : JFrame} {mk : MethodId} {a : Array Value} (h : Cx D ad dA A U U.heap) : Cx D ad dA A (U.calling g mk a) (U.calling g mk a).heap := by
  obtain ⟨h1, h2, h3, h4, h5, h6, h7, h8, h9, h10, h11⟩ := h
  have hv : U.vm.Alike (U.calling g mk a).vm := Vm.Alike.refl U.vm
  exact ⟨va_K.moved (u := U) hv h1, va_Z.moved (u := U) hv h2, va_T.moved (u := U) hv h3, va_Z.moved (u := U) hv h4, va_T.moved (u := U) hv h5, vk_S.moved (u := U) hv h6, fun i q hq => vk_R.same (u := U) rfl (h7 i q hq), va_Z.moved (u := U) hv h8, Or.imp (fun h => va_Z.moved (u := U) hv h) (fun h => va_Z.moved (u := U) hv h) h9, fun q hq => va_Nw.same rfl rfl (h10 q hq), fun q hq => va_Nw.same rfl rfl (h11 q hq)⟩
def Wd (D : va_G) (ad : Nat → Nat) (dA : Nat → ClassId) (A : Nat → Prop) (sh : Shp) (M : Mem) (H : Heap) : Prop := va_P D cl (lay ad dA sh M) H ∧ va_D A (lay ad dA sh M)
def Qr (wv : Option Value) (Post : State → Prop) (A : Nat → Prop) : Array Value → State → Outcome → State → Prop := fun _ st o t => o = .returned wv ∧ Post t ∧ va_F A st t
def rmc (d mc ms : Nat) : Room := { frames := d, cells := mc, slots := ms, locals := 64 * d }
abbrev rmd (d : Nat) : Room := rmc d 0 0
def Hp (mt : Mt) (p : Program) (s : State) (m : MethodId) (args : Array Value) (meth : Method) (c : Code) (D : va_G) (ad : Nat → Nat) (dA : Nat → ClassId) (A : Nat → Prop) : Prop :=
  p.tables.exec = Jvm.exec ∧ c.code = mt.2.1 ∧ meth.sig.returnType = mt.2.2.2.1 ∧ c.maxLocals = mt.2.2.1 ∧ s.vm.findClass mt.1 = some m.cls ∧ (∀ w ∈ tbl, w.before args s = true) ∧ meth.locks = false ∧ Cx D ad dA A s s.heap
def J {R : Type} (mt : Mt) (wr : R → Option Value) (pc : Nat) (lv : List (Nat × Value)) (st : List Value) (M : Mem) (F : Option (R × Mem)) : Prop :=
  ∀ (r : R) (M' : Mem), F = some (r, M') → ∀ (p : Program) (l : Launch) (e : Env) (s : State) (m : MethodId) (args : Array Value) (below : List Frame) (meth : Method) (c : Code) (D : va_G) (ad : Nat → Nat) (dA : Nat → ClassId) (A : Nat → Prop) (mc ms : Nat), Hp mt p s m args meth c D ad dA A →
    ∀ (H : Heap) (locs : List Loc) (ls : Array Slot), va_P D cl (lay ad dA mt.2.2.2.2.2 M) H → va_D A (lay ad dA mt.2.2.2.2.2 M) → va_S A s.heap H locs → lv_has ls mt.2.2.1 (lv.map (rvp ad)) →
      W p l e (rmc mt.2.2.2.2.1 mc ms) s m args below meth c H locs mc ms (MQ below (Qr (wr r) (fun t => Wd D ad dA A mt.2.2.2.2.2 M' t.heap) A) args s mc ms A) (F0 m pc ls (st.map (rv ad)))
/-- a method's contract -/
def Ct {R : Type} (y : MethodName) (mt : Mt) (wr : R → Option Value) (as : List Value) (M : Mem) (F : Option (R × Mem)) : Prop :=
  ∀ (r : R) (M' : Mem), F = some (r, M') → ∀ (l : Launch) (D : va_G) (ad : Nat → Nat) (dA : Nat → ClassId) (A : Nat → Prop),
    Met l y (.code y mt.2.1 mt.2.2.1 mt.2.2.2.1 :: tbl) (rmd mt.2.2.2.2.1) (va_Pc (as.map (rv ad)) (fun U => Wd D ad dA A mt.2.2.2.2.2 M U.heap ∧ Cx D ad dA A U U.heap)) (Qr (wr r) (fun t => Wd D ad dA A mt.2.2.2.2.2 M' t.heap) A) 0 0 A
theorem ct_of {R : Type} {y : MethodName} {mt : Mt} {wr : R → Option Value} {as : List Value} {M : Mem} {F : Option (R × Mem)} (hy : plainName y.cls = true) (hn : y.cls = mt.1) (hl : (lg_sl as).length ≤ mt.2.2.1) (hJ : J mt wr 0 (lv_args 0 as) [] M F) : Ct y mt wr as M F := by
  intro r M' hF l D ad dA A
  refine Met.ofW (cc := mt.2.1) (maxL := mt.2.2.1) (ret := mt.2.2.2.1) hy rfl ?_
  intro p e s m args below meth c s₁ B hml hv
  obtain ⟨rfl, ⟨hP, hD⟩, hC⟩ := hv
  have hts := atoms_spec (ws := .code y mt.2.1 mt.2.2.1 mt.2.2.2.1 :: tbl) B.pre
  have hown : s.vm.findClass y.cls = some m.cls := findClass_of_methodNamed B.named
  have hS : va_S A s.heap s.heap [] := va_S.rf
  have hls := lv_entry (as.map (rv ad)) (n := mt.2.2.1) (by rw [lvp_sl]; exact hl)
  rw [lg_entry_eq]
  rw [lvp_args] at hls
  exact hJ r M' hF p l e s m _ below meth c D ad dA A 0 0 ⟨B.exec, B.bytes, B.returns, hml, by rw [← hn]; exact hown, fun w h => hts w (List.mem_cons_of_mem _ h), B.notSynchronized, hC⟩ s.heap [] _ hP hD hS hls
